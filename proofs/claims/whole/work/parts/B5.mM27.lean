/-! ===== lessening: the model ===== -/
section MN27
variable {B : zB} {n0 : Nat} {K : Int → zM → Prop} {Kv : zM → Prop} {M : zM} {wr : List Int} {sk : List (List st3 × Int)} {w u : List st3} {G : Option GC} {on rd : Int} {b : List Int} {nu : Int → Int} {gn0 : Nat → Prop} {U0 : List un} {z : LSt} {n : Int}
theorem LY.len (h : LY M wr sk w u G on rd b nu gn0 U0 z) : z.1.length ≤ 60 := h.2.2.1.2.1
theorem LY.cnt (h : LY M wr sk w u G on rd b nu gn0 U0 z) : gi M 45 55 = (z.1.length : Int) := h.2.2.1.1
theorem LY.en (h : LY M wr sk w u G on rd b nu gn0 U0 z) : gi M 45 47 = z.2.2.2.2.2.2.2 := h.1.2.2.2.2.1.2.2.2.2.1
theorem m_X9_round (hU0 : ∀ v ∈ U0, nu v.2.2 < 61) (ho : okS b) (hn : 1 ≤ n) (hnl : n ≤ z.1.length) (h : LY M wr sk w u G on rd b nu gn0 U0 z) (hen : z.2.2.2.2.2.2.2 = 0)
    (kA : (trS on (ocA w u) b n true (decide (2 ≤ n)) z).1 = true → ∀ M', LFm M M' → LY M' wr sk w u G on rd b nu gn0 U0 (trS on (ocA w u) b n true (decide (2 ≤ n)) z).2 → K (min 2 ((trS on (ocA w u) b n true (decide (2 ≤ n)) z).2.1.length : Int)) M')
    (kB : (trS on (ocA w u) b n true (decide (2 ≤ n)) z).1 = false → (trS on (ocA w u) b n false (decide (¬ n = 2)) (trS on (ocA w u) b n true (decide (2 ≤ n)) z).2).1 = true → ∀ M', LFm M M' → LY M' wr sk w u G on rd b nu gn0 U0 (trS on (ocA w u) b n false (decide (¬ n = 2)) (trS on (ocA w u) b n true (decide (2 ≤ n)) z).2).2 → K (min (max 2 (n - 1)) ((trS on (ocA w u) b n false (decide (¬ n = 2)) (trS on (ocA w u) b n true (decide (2 ≤ n)) z).2).2.1.length : Int)) M')
    (kC : (trS on (ocA w u) b n true (decide (2 ≤ n)) z).1 = false → (trS on (ocA w u) b n false (decide (¬ n = 2)) (trS on (ocA w u) b n true (decide (2 ≤ n)) z).2).1 = false → ∀ M' x, LFm M M' → LY M' wr sk w u G on rd b nu gn0 U0 (trS on (ocA w u) b n false (decide (¬ n = 2)) (trS on (ocA w u) b n true (decide (2 ≤ n)) z).2).2 → ((x = 0 ∧ (¬ (trS on (ocA w u) b n false (decide (¬ n = 2)) (trS on (ocA w u) b n true (decide (2 ≤ n)) z).2).2.2.2.2.2.2.2.2 = 0 ∨ (z.1.length : Int) ≤ n)) ∨ (x = min (2 * n) (z.1.length : Int) ∧ n < z.1.length)) → K x M') : zCi B zy_X9_round 6 0 0 [zR 45, zI n] M K := by
  have h60 := h.len
  -- the second half
  have half : ∀ (n0 : Nat) (M1 : zM) (z1 : LSt), trS on (ocA w u) b n true (decide (2 ≤ n)) z = (false, z1) → LFm M M1 → LY M1 wr sk w u G on rd b nu gn0 U0 z1 → z1.2.2.2.2.2.2.2 = 0 → z1.1.length = z.1.length → zGi B zy_X9_round 6 0 0 n0 K 117 [some (zR 45), some (zI n), some (zI (z.1.length : Int)), some (zI 0), none, none, none, none] [] M1 0 0 := fun n0 M1 z1 e1 f1 h1 hen1 hl1 => by
    rw [e1] at kB kC
    dsimp only at kB kC
    by_cases q : n = 2
    · have e2 : trS on (ocA w u) b n false (decide (¬ n = 2)) z1 = (false, z1) := by
        unfold trS
        rw [if_neg (by simp [q])]
      rw [e2] at kC
      have kk := fun x => kC rfl rfl M1 x f1 h1
      have fin : K (if n = (z.1.length : Int) then 0 else (if (z.1.length : Int) ≤ (2 * n) then (z.1.length : Int) else 2 * n)) M1 := by
        by_cases y : n = (z.1.length : Int)
        · rw [if_pos y]; exact kk 0 (Or.inl ⟨rfl, Or.inr (by omega)⟩)
        · rw [if_neg y]
          refine kk _ (Or.inr ⟨?_, by omega⟩)
          split <;> omega
      apply b_X9_round_117
      case k1 => intro y; omega
      case k2 => intro _ _; exact fin
      case k3 => intro _ y; exact absurd q y
      all_goals (intros; omega)
    · have et : trS on (ocA w u) b n false (decide (¬ n = 2)) z1 = tkS on (ocA w u) b n false n.toNat 0 z1 := by
        unfold trS
        rw [if_pos (by simp [q])]
      rw [et] at kB kC
      rw [← hl1]
      refine l_X9_rd_without hU0 ho hn q n.toNat 0 M1 z1 (by omega) (Int.le_refl _) (by omega) h1 hen1 (fun M' z' g1 g2 g3 => ?_) (fun M' z' g1 g2 g3 g4 => ?_) (fun M' z' g1 g2 g3 g4 => ?_)
      · rw [g3] at kB
        exact kB rfl rfl M' (f1.tr g1) g2
      · rw [g3] at kC
        exact kC rfl rfl M' 0 (f1.tr g1) g2 (Or.inl ⟨rfl, Or.inl g4⟩)
      · rw [g3] at kC
        rw [hl1]
        by_cases y : n = (z.1.length : Int)
        · rw [if_pos y]; exact kC rfl rfl M' 0 (f1.tr g1) g2 (Or.inl ⟨rfl, Or.inr (by omega)⟩)
        · rw [if_neg y]
          refine kC rfl rfl M' _ (f1.tr g1) g2 (Or.inr ⟨?_, by omega⟩)
          split <;> omega
  refine e_X9_round (fun n0 => ?_)
  apply b_X9_round_0
  rw [h.cnt]
  by_cases q : 2 ≤ n
  · have et : trS on (ocA w u) b n true (decide (2 ≤ n)) z = tkS on (ocA w u) b n true n.toNat 0 z := by
      unfold trS
      rw [if_pos (by simp [q])]
    have tl := trS_len (on := on) (oc := ocA w u) (b := b) (al := true) (go := decide (2 ≤ n)) (z := z) hn hnl (fun _ _ => q)
    have tl2 := tkS_len (on := on) (oc := ocA w u) (b := b) (al := true) hn (fun _ => q) n.toNat 0 z (by omega) (Int.le_refl _) hnl
    refine l_X9_rd_alone hU0 ho q n.toNat 0 M z (by omega) (Int.le_refl _) hnl h hen (fun M' z' g1 g2 g3 => ?_) (fun M' z' g1 g2 g3 g4 => ?_) (fun M' z' g1 g2 g3 g4 => ?_)
    · rw [g3] at tl2
      have := (tl2.1 rfl).2 rfl
      rw [et, g3] at kA
      have kk := kA rfl M' g1 g2
      have em : (if (z'.1.length : Int) = 1 then (1 : Int) else 2) = min 2 (z'.1.length : Int) := by
        dsimp only at this
        split <;> omega
      rw [em]
      exact kk
    · rw [et, g3] at kC
      have e2 : trS on (ocA w u) b n false (decide (¬ n = 2)) z' = (false, z') := by
        unfold trS
        split
        · exact tkS_end g4
        · rfl
      dsimp only at kC
      rw [e2] at kC
      exact kC rfl rfl M' 0 g1 g2 (Or.inl ⟨rfl, Or.inl g4⟩)
    · rw [← et] at g3
      rw [g3] at tl
      exact half n0 M' z' g3 g1 g2 g4 (by rw [tl.2 rfl])
  · have e1 : trS on (ocA w u) b n true (decide (2 ≤ n)) z = (false, z) := by
      unfold trS
      rw [if_neg (by simp [q])]
    have hh := half n0 M z e1 LFm.rf h hen rfl
    apply b_X9_round_7
    case k1 => intro _; exact hh
    case k2 => intro _ _; exact hh
    all_goals (intros; omega)
theorem l_X9_lessen (hU0 : ∀ v ∈ U0, nu v.2.2 < 61) (ho : okS b) : ∀ (f : Nat) (n : Int) (M : zM) (z : LSt), (z.1.length : Int) * 64 + (64 - n) ≤ f + 64 → (1 ≤ n ∨ z.1.length = 0) → n ≤ z.1.length → LY M wr sk w u G on rd b nu gn0 U0 z →
    (∀ M', LFm M M' → LY M' wr sk w u G on rd b nu gn0 U0 (leS on (ocA w u) b f n z) → Kv M') → zGv B zy_X9_lessen 7 0 0 n0 Kv 14 [some (zR 45), some (zI n)] [] M 0 0 := by
  intro f
  induction f with
  | zero =>
    intro n M z hmu hn hnl h k
    have h60 := h.len
    have kk := k M LFm.rf h
    apply b_X9_lessen_14
    case k1 => intro _; exact kk
    case k2 => intro _ _; exact kk
    case k3 => intro _ _ _; exact kk
    case k4 => intro q; rw [h.cnt] at q; omega
  | succ f ih =>
    intro n M z hmu hn hnl h k
    have h60 := h.len
    have en := h.en
    have stop : (z.1.length = 0 ∨ ¬ z.2.2.2.2.2.2.2 = 0) → Kv M := fun q => by
      unfold leS at k
      rw [if_pos q] at k
      exact k M LFm.rf h
    apply b_X9_lessen_14
    case k1 => intro q; rw [h.cnt] at q; exact stop (Or.inl (by omega))
    case k2 => intro _ q; exact stop (Or.inl (by omega))
    case k3 => intro _ _ q; rw [en] at q; exact stop (Or.inr q)
    case k4 =>
      intro q1 q2 q3
      rw [h.cnt] at q1
      rw [en] at q3
      have hst : ¬ (z.1.length = 0 ∨ ¬ z.2.2.2.2.2.2.2 = 0) := by omega
      unfold leS at k
      rw [if_neg hst] at k
      have t1 := trS_len (on := on) (oc := ocA w u) (b := b) (al := true) (go := decide (2 ≤ n)) (z := z) q2 hnl (fun _ h => by simpa using h)
      have t2 : (trS on (ocA w u) b n true (decide (2 ≤ n)) z).1 = false → _ := fun hh => trS_len (on := on) (oc := ocA w u) (b := b) (al := false) (go := decide (¬ n = 2)) (z := (trS on (ocA w u) b n true (decide (2 ≤ n)) z).2) q2 (by rw [t1.2 hh]; exact hnl) (fun h _ => by cases h)
      refine m_X9_round hU0 ho q2 hnl h q3 (fun e1 M1 f1 h1 => ?_) (fun e1 e2 M1 f1 h1 => ?_) (fun e1 e2 M1 x f1 h1 hx => ?_)
      · rw [if_pos e1] at k
        have := t1.1 e1
        apply b_X9_lessen_37
        refine ih _ M1 _ (by omega) (by omega) (by omega) h1 (fun M' f2 h2 => k M' (f1.tr f2) h2)
      · rw [if_neg (by rw [e1]; decide), if_pos e2] at k
        have := (t2 e1).1 e2
        rw [t1.2 e1] at this
        apply b_X9_lessen_37
        refine ih _ M1 _ (by omega) (by omega) (by omega) h1 (fun M' f2 h2 => k M' (f1.tr f2) h2)
      · rw [if_neg (by rw [e1]; decide), if_neg (by rw [e2]; decide)] at k
        have hlen := (t2 e1).2 e2
        rw [t1.2 e1] at hlen
        generalize hz2 : (trS on (ocA w u) b n false (decide (¬ n = 2)) (trS on (ocA w u) b n true (decide (2 ≤ n)) z).2).2 = z2 at *
        apply b_X9_lessen_37
        rcases hx with ⟨hx0, hx1⟩ | ⟨hx0, hx1⟩
        · have kk : Kv M1 := by
            by_cases y : (z.1.length : Int) ≤ n
            · rw [if_pos y] at k
              exact k M1 f1 h1
            · rw [if_neg y] at k
              have hend := hx1.resolve_right y
              refine k M1 f1 ?_
              have : leS on (ocA w u) b f (min (2 * n) (z.1.length : Int)) z2 = z2 := by
                cases f with
                | zero => rfl
                | succ f =>
                  unfold leS
                  rw [if_pos (Or.inr hend)]
              rw [this]
              exact h1
          apply b_X9_lessen_14
          case k1 => intro _; exact kk
          case k2 => intro _ _; exact kk
          case k3 => intro _ y; omega
          case k4 => intro _ y; omega
        · rw [if_neg (by omega)] at k
          rw [hx0]
          refine ih _ M1 z2 (by rw [hlen]; omega) (by omega) (by rw [hlen]; omega) h1 (fun M' f2 h2 => k M' (f1.tr f2) h2)
theorem m_X9_lessen (hU0 : ∀ v ∈ U0, nu v.2.2 < 61) (ho : okS b) (h : LY M wr sk w u G on rd b nu gn0 U0 z) (k : ∀ M', LFm M M' → LY M' wr sk w u G on rd b nu gn0 U0 (lesS on (ocA w u) b z) → Kv M') : zCv B zy_X9_lessen 7 0 0 [zR 45] M Kv := by
  have h60 := h.len
  refine e_X9_lessen (fun n0 => ?_)
  apply b_X9_lessen_0
  rw [h.cnt]
  by_cases q : z.1.length = 0
  · have e : lesS on (ocA w u) b z = z := by
      unfold lesS leS
      rw [if_pos (Or.inl q)]
    rw [e] at k
    have kk := k M LFm.rf h
    apply b_X9_lessen_14
    case k1 => intro _; exact kk
    case k2 => intro y; rw [h.cnt] at y; omega
    case k3 => intro y; rw [h.cnt] at y; omega
    case k4 => intro y; rw [h.cnt] at y; omega
  · have e : (if (z.1.length : Int) = 1 then (1 : Int) else 2) = min 2 (z.1.length : Int) := by split <;> omega
    rw [e]
    exact l_X9_lessen hU0 ho 5000 _ M z (by omega) (by omega) (by omega) h k
end MN27
