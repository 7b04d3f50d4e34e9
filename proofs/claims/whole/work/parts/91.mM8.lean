/-! ===== leads and order: the model ===== -/
section NM8
variable {B : zB} {K : Int → zM → Prop} {Kv : zM → Prop} {M : zM} {g : zG}
theorem LM.cg {M : zM} {S S' : Nat → Nat → Prop} (h : LM M S) (e : ∀ r q, r < 6 → q < 6 → (S r q ↔ S' r q)) : LM M S' := fun r q hr hq => (h r q hr hq).trans (e r q hr hq)
/-- what is known when rule i has been worked off up to its alternative m -/
def SL (g : zG) (em : Nat → Bool) (i : Nat) (m : Int) (r q : Nat) : Prop := (r < i ∧ 0 ≤ gR g r ∧ LT g em r (gE g r) q) ∨ (r = i ∧ LT g em r m q)
theorem SL_succ {em : Nat → Bool} {i b : Nat} (hb : gR g i ≤ b) (r q : Nat) : (SL g em i b r q ∨ (r = i ∧ LA g em b (gF g (b + 1)) q)) ↔ SL g em i ((b : Int) + 1) r q := by
  constructor
  · rintro ((z | ⟨z, b', h1, h2, h3⟩) | ⟨z, h⟩)
    · exact Or.inl z
    · exact Or.inr ⟨z, b', h1, by omega, h3⟩
    · exact Or.inr ⟨z, b, by rw [z]; exact hb, by omega, h⟩
  · rintro (z | ⟨z, b', h1, h2, h3⟩)
    · exact Or.inl (Or.inl z)
    · by_cases w : b' = b
      · rw [w] at h3; exact Or.inr ⟨z, h3⟩
      · exact Or.inl (Or.inr ⟨z, b', h1, by omega, h3⟩)
theorem m_X9_findLeads {em : Nat → Bool} (hx : RM M g) (hw : WG g) (he : ∀ r, r < 6 → eM M r = em r) (k : ∀ M', RM M' g → zSm [60] M M' → LM M' (fun r q => 0 ≤ gR g r ∧ LT g em r (gE g r) q) → Kv M') : zCv B zy_X9_findLeads 3 0 0 [zR 45] M Kv := by
  have he' : ∀ {M'}, zSm [60] M M' → ∀ r, r < 6 → eM M' r = em r := fun f r hr => by
    rw [← he r hr]
    unfold eM
    rw [f.ge (by decide)]
  have L1 : ∀ (i n0 : Nat) (hi : i < 6) (hR : 0 ≤ gR g i) (kn : ∀ M', RM M' g → zSm [60] M M' → LM M' (SL g em i (gE g i)) → zGv B zy_X9_findLeads 3 0 0 n0 Kv 23 [some (zR 45), some (zI ((i : Int) + 1)), none, none, none] [] M' 0 0),
      ∀ (d b : Nat) (M1 : zM), gR g i ≤ b → (b : Int) + d = gE g i → RM M1 g → zSm [60] M M1 → LM M1 (SL g em i b) → zGv B zy_X9_findLeads 3 0 0 n0 Kv 36 [some (zR 45), some (zI (i : Int)), some (zI (b : Int)), none, none] [] M1 0 0 := by
    intro i n0 hi hR kn d
    have wr := (hw.2.2.2.2.2 i hi).2 hR
    have ga := hw.2.1
    have ei : ((i : Int)).toNat = i := rfl
    induction d with
    | zero =>
      intro b M1 hb hd hx f hL
      have x5 := ((hx.2.2.2.2 i hi).2 hR)
      apply b_X9_findLeads_36
      case k2 =>
        intro _ _
        refine kn M1 hx f ?_
        rw [(by omega : (b : Int) = gE g i)] at hL
        exact hL
      case k3 => intro _ q; rw [ei, x5] at q; omega
      case k1 => intro q; omega
      all_goals (intros; first | omega | (rw [ei, x5] at *; omega))
    | succ d ih =>
      intro b M1 hb hd hx f hL
      have x5 := ((hx.2.2.2.2 i hi).2 hR)
      have eb : ((b : Int)).toNat = b := rfl
      have x4 := hx.2.2.2.1 b (by omega)
      have f0 := hw.2.2.2.1 b (by omega)
      apply b_X9_findLeads_36
      case k3 =>
        intro _ _
        rw [eb, x4]
        refine l_X9_fl_items (M := M) (em := em) (S := SL g em i b) hw hi (by omega) (fun M' hx' f' hL' => ih (b + 1) M' (by omega) (by omega) hx' f' (hL'.cg (fun r q _ _ => SL_succ hb r q))) (gF g (b + 1) - gF g b).toNat (gF g b) 1 M1 f0.1 (Int.le_refl _) (by omega) (Or.inr rfl) ⟨fun _ j h1 h2 => by omega, fun _ => rfl⟩ hx f (he' f) (hL.cg (fun r q _ _ => ⟨Or.inl, fun z => z.elim id (fun ⟨_, k, h1, h2, _⟩ => by omega)⟩))
      case k2 => intro _ q; rw [ei, x5] at q; omega
      case k1 => intro q; omega
      all_goals (intros; first | omega | (rw [ei, x5] at *; omega))
  have L2 : ∀ (d i n0 : Nat) (M1 : zM), i + d = 6 → RM M1 g → zSm [60] M M1 → LM M1 (fun r q => r < i ∧ 0 ≤ gR g r ∧ LT g em r (gE g r) q) → zGv B zy_X9_findLeads 3 0 0 n0 Kv 23 [some (zR 45), some (zI (i : Int)), none, none, none] [] M1 0 0 := by
    intro d
    induction d with
    | zero =>
      intro i n0 M1 hi hx f hL
      apply b_X9_findLeads_23
      case k1 => exact fun _ => k M1 hx f (hL.cg (fun r q hr hq => ⟨fun z => z.2, fun z => ⟨by omega, z⟩⟩))
      all_goals (intros; omega)
    | succ d ih =>
      intro i n0 M1 hi hx f hL
      have ei : ((i : Int)).toNat = i := rfl
      have x5 := hx.2.2.2.2 i (by omega)
      have wr := hw.2.2.2.2.2 i (by omega)
      apply b_X9_findLeads_23
      case k2 =>
        intro _
        rw [ei, x5.1]
        by_cases z : 0 ≤ gR g i
        · have := L1 i n0 (by omega) z (fun M' hx' f' hL' => ih (i + 1) n0 M' (by omega) hx' f' (hL'.cg (fun r q hr hq => by
            unfold SL
            constructor
            · rintro (⟨h1, h2⟩ | ⟨h1, h2⟩)
              · exact ⟨by omega, h2⟩
              · rw [h1] at h2 ⊢; exact ⟨by omega, z, h2⟩
            · rintro ⟨h1, h2, h3⟩
              by_cases w : r = i
              · rw [w] at h3 ⊢; exact Or.inr ⟨rfl, h3⟩
              · exact Or.inl ⟨by omega, h2, h3⟩))) (gE g i - gR g i).toNat (gR g i).toNat M1 (by omega) (by have := wr.2 z; omega) hx f (hL.cg (fun r q _ _ => ⟨Or.inl, fun w => w.elim id (fun ⟨h0, b, h1, h2, _⟩ => by rw [h0] at h1; omega)⟩))
          rwa [(by omega : (((gR g i).toNat : Nat) : Int) = gR g i)] at this
        · apply b_X9_findLeads_36
          case k1 => exact fun _ => ih (i + 1) n0 M1 (by omega) hx f (hL.cg (fun r q _ _ => ⟨fun w => ⟨by omega, w.2⟩, fun w => ⟨by
              by_cases v : r = i
              · exact absurd (v ▸ w.2.1) z
              · omega, w.2⟩⟩))
          all_goals (intros; omega)
      all_goals (intros; omega)
  have L0 : ∀ (d i n0 : Nat) (M1 : zM), i + d = 36 → RM M1 g → zSm [60] M M1 → (∀ q, q < i → gi M1 60 q = 0) → zGv B zy_X9_findLeads 3 0 0 n0 Kv 2 [some (zR 45), some (zI (i : Int)), none, none, none] [] M1 0 0 := by
    intro d
    induction d with
    | zero =>
      intro i n0 M1 hi hx f h
      apply b_X9_findLeads_2
      case k1 => exact fun _ => L2 6 0 n0 M1 rfl hx f (fun r q hr hq => ⟨fun z => absurd (h _ (by omega)) z, fun z => by have := z.1; omega⟩)
      all_goals (intros; omega)
    | succ d ih =>
      intro i n0 M1 hi hx f h
      apply b_X9_findLeads_2
      case k2 =>
        intro _
        have fs : zSm [60] M1 (si M1 60 i 0) := zSm.rf.st (by decide)
        refine ih (i + 1) n0 _ (by omega) (hx.fr fs (by decide)) (f.tr fs) (fun q hq => ?_)
        rw [show ((i : Int)).toNat = i from rfl, gi_si_eq]
        by_cases z : q = i
        · rw [if_pos z]
        · rw [if_neg z]; exact h q (by omega)
      all_goals (intros; omega)
  refine e_X9_findLeads (fun n0 => ?_)
  apply b_X9_findLeads_0
  exact L0 36 0 n0 M rfl hx zSm.rf (fun q hq => by omega)
theorem LPd_LT {em : Nat → Bool} {od : List Nat} {r : Nat} (hw : WG g) (hr : r < 6) (hR : 0 ≤ gR g r) : LPd g em od r ↔ ∀ q, q < 6 → LT g em r (gE g r) q → q ∈ od := by
  have wr := (hw.2.2.2.2.2 r hr).2 hR
  constructor
  · rintro h q hq ⟨b, h1, h2, k, h3, h4, h5, h6, h7⟩
    have f0 := hw.2.2.2.1 b (by omega)
    have := h b h1 h2 (k - (gF g b).toNat) (by omega) (fun i hi => h5 _ (by omega) (by omega)) (by rw [(by omega : (gF g b).toNat + (k - (gF g b).toNat) = k)]; exact h6)
    rw [(by omega : (gF g b).toNat + (k - (gF g b).toNat) = k), nm_eq h6, h7] at this
    exact this
  · intro h b h1 h2 j hj hv hn
    have f0 := hw.2.2.2.1 b (by omega)
    have nmc := isNm_iff.mp hn
    refine h _ (by rw [nm_eq hn]; omega) ⟨b, h1, h2, (gF g b).toNat + j, by omega, by omega, fun i h3 h4 => ?_, hn, by rw [nm_eq hn]; omega⟩
    have := hv (i - (gF g b).toNat) (by omega)
    rwa [(by omega : (gF g b).toNat + (i - (gF g b).toNat) = i)] at this
end NM8
