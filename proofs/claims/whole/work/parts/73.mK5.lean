/-! ===== the order of the rules: the class ===== -/
section K5
variable {B : zB} {K : Int → zM → Prop} {Kv : zM → Prop} {M : zM} {g : zG}
/-- what is placed, in the class's cells -/
def RO (M : zM) (od : List Nat) : Prop := gi M 8 4 = od.length ∧ (∀ i, i < od.length → gi M 9 i = (od.getD i 0 : Nat)) ∧ ∀ r, r < 6 → gi M 18 r = iO od r
theorem m_X0_leadsToPlaced {em : Nat → Bool} {od : List Nat} {r : Nat} (hx : RX M g) (hw : WG g) (he : ∀ r, r < 6 → eX M r = em r) (ho : RO M od) (hr : r < 6) (hR : 0 ≤ gR g r) (k0 : ¬ LPd g em od r → K 0 M) (k1 : LPd g em od r → K 1 M) : zCi B zy_X0_leadsToPlaced 3 0 0 [zR 8, zI (r : Int)] M K := by
  have er : ((r : Int)).toNat = r := rfl
  have ev : ∀ j, gV g (eX M) j = gV g em j := fun j => gV_cg he
  have wr := (hw.2.2.2.2.2 r hr).2 hR
  -- from item x on, all before void (v3 = 1) or not
  let Q : Nat → Nat → Prop := fun b x => ∀ j : Nat, x ≤ j → (j : Int) < gF g (b + 1) → (∀ i : Nat, x ≤ i → i < j → gV g em i = true) → isNm (gI g j) = true → (nm (gI g j)).toNat ∈ od
  have QL : ∀ b : Nat, gR g r ≤ b → (b : Int) < gE g r → (Q b (gF g b).toNat ↔ LD g em (fun q => q ∈ od) (gF g (b + 1) - gF g b).toNat (gF g b).toNat) := by
    intro b h1 h2
    have f0 := hw.2.2.2.1 b (by omega)
    constructor
    · intro h j hj hv hn
      exact h ((gF g b).toNat + j) (by omega) (by omega) (fun i h3 h4 => by
        have := hv (i - (gF g b).toNat) (by omega)
        rwa [(by omega : (gF g b).toNat + (i - (gF g b).toNat) = i)] at this) hn
    · intro h j hj1 hj2 hv hn
      have := h (j - (gF g b).toNat) (by omega) (fun i h3 => hv _ (by omega) (by omega)) (by rw [(by omega : (gF g b).toNat + (j - (gF g b).toNat) = j)]; exact hn)
      rwa [(by omega : (gF g b).toNat + (j - (gF g b).toNat) = j)] at this
  have L1 : ∀ (b n0 : Nat), gR g r ≤ b → (b : Int) < gE g r → (∀ x : Int, 0 ≤ x → ∀ v3 : Int, True) → (∀ v3 x : Int, zGi B zy_X0_leadsToPlaced 3 0 0 n0 K 6 [some (zR 8), some (zI (r : Int)), some (zI ((b : Int) + 1)), none, none, none] [] M 0 0 → True) →
      ∀ (d : Nat) (x : Nat) (v3 : Int), (v3 = 0 ∨ v3 = 1) → gF g b ≤ x → (v3 = 1 → (x : Int) + d = gF g (b + 1)) →
      ((v3 = 1 → Q b x) → zGi B zy_X0_leadsToPlaced 3 0 0 n0 K 6 [some (zR 8), some (zI (r : Int)), some (zI ((b : Int) + 1)), none, none, none] [] M 0 0) → ((v3 = 1 ∧ ¬ Q b x) → K 0 M) →
      zGi B zy_X0_leadsToPlaced 3 0 0 n0 K 24 [some (zR 8), some (zI (r : Int)), some (zI (b : Int)), some (zI v3), some (zI (x : Int)), none] [] M 0 0 := by
    intro b n0 hb1 hb2 _ _ d
    have eb : ((b : Int)).toNat = b := rfl
    have fb := (hw.2.2.2.2.1 (b + 1) (by omega))
    have f0 := hw.2.2.2.1 b (by omega)
    have ga := hw.2.1
    have gn := hw.1
    induction d with
    | zero =>
      intro x v3 hv hx1 hx2 kn ka
      apply b_X0_leadsToPlaced_24 (g := g)
      case c2 => exact hx
      case c3 => exact hw
      case k1 => exact fun q => kn (fun z => by omega)
      case k2 => exact fun q q2 => kn (fun z j h1 h2 => by have := hx2 z; omega)
      case c4 => omega
      all_goals (intros; first | omega | (rw [eb] at *; have := hx2 (by omega); omega))
    | succ d ih =>
      intro x v3 hv hx1 hx2 kn ka
      have ex : ((x : Int)).toNat = x := rfl
      have nb2 := nm_bd (gI g x)
      have nxt : v3 = 1 → (isNm (gI g x) = true → (nm (gI g x)).toNat ∈ od) → zGi B zy_X0_leadsToPlaced 3 0 0 n0 K 24 [some (zR 8), some (zI (r : Int)), some (zI (b : Int)), some (zI (if gV g (eX M) x = true then 1 else 0)), some (zI ((x : Int) + 1)), none] [] M 0 0 := fun hv1 hnm => by
        have hx3 := hx2 hv1
        rw [ev]
        by_cases w : gV g em x = true
        · rw [if_pos w]
          have QQ : Q b x ↔ Q b (x + 1) := by
            constructor
            · intro h j h1 h2 h3 h4
              refine h j (by omega) h2 (fun i h5 h6 => ?_) h4
              by_cases z : i = x
              · rw [z]; exact w
              · exact h3 i (by omega) h6
            · intro h j h1 h2 h3 h4
              by_cases z : j = x
              · rw [z] at h4 ⊢; exact hnm h4
              · exact h j (by omega) h2 (fun i h5 h6 => h3 i (by omega) h6) h4
          exact ih (x + 1) 1 (Or.inr rfl) (by omega) (fun _ => by omega) (fun z => kn (fun _ => QQ.mpr (z rfl))) (fun z => ka ⟨hv1, fun q => z.2 (QQ.mp q)⟩)
        · rw [if_neg w]
          refine ih (x + 1) 0 (Or.inl rfl) (by omega) (fun z => by omega) (fun _ => kn (fun _ j h1 h2 h3 h4 => ?_)) (fun z => by have := z.1; omega)
          by_cases z : j = x
          · rw [z] at h4 ⊢; exact hnm h4
          · exact absurd (h3 x (Nat.le_refl _) (by omega)) w
      apply b_X0_leadsToPlaced_24 (g := g)
      case c2 => exact hx
      case c3 => exact hw
      case c4 => omega
      case k1 => exact fun q => kn (fun z => by omega)
      case k2 => intro q q2; rw [eb] at q2; exact absurd (hx2 (by omega)) (by omega)
      case k3 =>
        intro q q2 q3
        rw [ex] at q3
        exact nxt (by omega) (fun hn => by have := nm_lt.mpr hn; omega)
      case k4 =>
        intro q q2 q3 q4
        rw [ex] at q3 q4
        refine nxt (by omega) (fun hn => ?_)
        have := ho.2.2 (nm (gI g x)).toNat (by omega)
        unfold iO at this
        by_cases z : (nm (gI g x)).toNat ∈ od
        · exact z
        · rw [if_neg z] at this; exact absurd this q4
      case k5 =>
        intro q q2 q3 q4
        rw [ex] at q3 q4
        refine ka ⟨by omega, fun h => ?_⟩
        have hm := h x (Nat.le_refl _) (by rw [eb] at q2; exact q2) (fun i h1 h2 => by omega) (nm_lt.mp q3)
        have := ho.2.2 (nm (gI g x)).toNat (by omega)
        unfold iO at this
        rw [if_pos hm, q4] at this
        omega
      case c8 => intro _ _ q3; rw [ex] at q3 ⊢; omega
      all_goals (intros; first | omega | (rw [eb] at *; have := hx2 (by omega); omega))
  have L2 : ∀ (d b n0 : Nat), gR g r ≤ b → (b : Int) + d = gE g r → (∀ b', gR g r ≤ (b' : Nat) → b' < b → LD g em (fun q => q ∈ od) (gF g (b' + 1) - gF g b').toNat (gF g b').toNat) → zGi B zy_X0_leadsToPlaced 3 0 0 n0 K 6 [some (zR 8), some (zI (r : Int)), some (zI (b : Int)), none, none, none] [] M 0 0 := by
    intro d
    induction d with
    | zero =>
      intro b n0 hb hd h
      have ga := hw.2.1
      apply b_X0_leadsToPlaced_6 (g := g)
      case c1 => exact hx
      case c3 => exact hw
      case k1 => exact fun _ => k1 (fun b' h1 h2 => h b' h1 (by omega))
      case k2 => intro q; rw [er, if_neg (by omega)] at q; omega
      case c4 => intro q; rw [er, if_neg (by omega)] at q; omega
      all_goals (intros; omega)
    | succ d ih =>
      intro b n0 hb hd h
      have ga := hw.2.1
      have eb : ((b : Int)).toNat = b := rfl
      have f0 := hw.2.2.2.1 b (by omega)
      apply b_X0_leadsToPlaced_6 (g := g)
      case c1 => exact hx
      case c3 => exact hw
      case k1 => intro q; rw [er, if_neg (by omega)] at q; omega
      case k2 =>
        intro _
        rw [eb, (by omega : gF g b = (((gF g b).toNat : Nat) : Int))]
        refine L1 b n0 hb (by omega) (fun _ _ _ => trivial) (fun _ _ _ => trivial) (gF g (b + 1) - gF g b).toNat (gF g b).toNat 1 (Or.inr rfl) (by omega) (fun _ => by omega) (fun z => ih (b + 1) n0 (by omega) (by omega) (fun b' h1 h2 => ?_)) (fun z => k0 (fun w => z.2 ((QL b hb (by omega)).mpr (w b hb (by omega)))))
        by_cases w : b' = b
        · rw [w]; exact (QL b hb (by omega)).mp (z rfl)
        · exact h b' h1 (by omega)
      case c4 => intro q; rw [er, if_neg (by omega)] at q; omega
      all_goals (intros; omega)
  refine e_X0_leadsToPlaced (fun n0 => ?_)
  apply b_X0_leadsToPlaced_0 (g := g)
  case c1 => exact hx
  case c2 => omega
  rw [er, if_neg (by omega)]
  have := L2 (gE g r - gR g r).toNat (gR g r).toNat n0 (by omega) (by omega) (fun b' h1 h2 => by omega)
  rwa [(by omega : (((gR g r).toNat : Nat) : Int) = gR g r)] at this
end K5
