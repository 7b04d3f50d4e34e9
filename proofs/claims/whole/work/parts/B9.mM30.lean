/-! ===== by depths, once and again: the model ===== -/
section MN30
variable {B : zB} {n0 : Nat} {K : Int → zM → Prop} {Kv : zM → Prop} {M : zM} {ty wr : List Int} {sk : List (List st3 × Int)} {w u : List st3} {G : Option GC} {j : JS} {on rd : Int} {L : List nd}
theorem m_X9_byDepths (h : MS M ty wr sk w u G j on rd) (hP : PM M L) (hp : prG G ty = some L) (k : ∀ M', FM M M' → MS M' (l1S on (ocA w u) L ty j).1 wr sk w u G (l1S on (ocA w u) L ty j).2 on rd → Kv M') : zCv B zy_X9_byDepths 8 0 0 [zR 45] M Kv := by
  obtain ⟨hw, h60⟩ := prG_wt h hp
  have ho := h.1.2.2
  refine e_X9_byDepths (fun n0 => ?_)
  apply b_X9_byDepths_0
  refine m_X9_setBase h (fun M1 f1 h1 hb hth _ => ?_)
  apply b_X9_byDepths_4
  have hP1 : PM M1 L := hP.same (f1.2 27 (by decide) (by decide) (by decide)) (fun a q1 q2 => f1.1.ge (by simp; omega))
  have LL : ∀ (m i : Nat) (M2 : zM), i + m = L.length → zSm [81] M1 M2 → (∀ x, x < i → gi M2 81 x = 0) → zGv B zy_X9_byDepths 8 0 0 n0 Kv 8 [some (zR 45), some (zI (dpF (fun k => nD (ndG L k)) i)), some (zI (i : Int)), none] [] M2 0 0 := by
    intro m
    induction m with
    | zero =>
      intro i M2 hi f2 hz
      have ei : i = L.length := by omega
      have e45 : gi M2 45 = gi M1 45 := f2.ge (by decide)
      have hP2 : PM M2 L := hP1.same (by rw [e45]) (fun a q1 q2 => f2.ge (by simp; omega))
      have hg0 : ∀ x, x < L.length → gnM M2 x = false := fun x hx => by unfold gnM; rw [hz x (by omega)]; rfl
      have hdb := dpL_bd hw h60
      have hav : AVM (gnM M2) L (1 - 1) (fun i => decide (i = 0)) := fun x hx hdx => by
        have hx0 : x = 0 := by
          by_cases z : x = 0
          · exact z
          · have := hw.2.2.2.2 x (by omega) hx; omega
        rw [hx0, hg0 0 (by omega), show (60 : Nat) = 59 + 1 from rfl, kpF_succ, if_pos (show nP (ndG L 0) < 0 by have := hw.2.2.2.1; omega)]
        rfl
      rw [ei]
      apply b_X9_byDepths_8
      case k1 =>
        intro _
        exact l_X9_bd_52 (M := M) hw h60 ho (dpL L).toNat 1 M2 _ (fun _ => true) ty j (by omega) (Int.le_refl _) (f1.fm.tr (f2.fm (by decide))) (h1.scr f2 (by decide) (fun q _ => by rw [e45])) (hb.same (by rw [e45]) (f2.ge (by decide))) (by rw [e45]; exact hth) hP2 hav (fun x hx _ => hg0 x hx) k
      all_goals (intro q; rw [hP2.1] at q; omega)
    | succ m ih =>
      intro i M2 hi f2 hz
      have e45 : gi M2 45 = gi M1 45 := f2.ge (by decide)
      have hP2 : PM M2 L := hP1.same (by rw [e45]) (fun a q1 q2 => f2.ge (by simp; omega))
      have ei : ((i : Int)).toNat = i := rfl
      have e68 := (hP2.all (k := i) (by omega)).2.2.2.2.1
      apply b_X9_byDepths_8
      case k1 => intro q; rw [hP2.1] at q; omega
      case c1 => intro _; omega
      case c2 => intro _; omega
      case k2 =>
        intro _
        rw [ei, e68]
        have ed : (if nD (ndG L i) ≤ dpF (fun k => nD (ndG L k)) i then dpF (fun k => nD (ndG L k)) i else nD (ndG L i)) = dpF (fun k => nD (ndG L k)) (i + 1) := by
          show _ = if dpF (fun k => nD (ndG L k)) i < nD (ndG L i) then nD (ndG L i) else dpF (fun k => nD (ndG L k)) i
          split <;> split <;> omega
        rw [ed]
        refine ih (i + 1) _ (by omega) (f2.st (by decide)) (fun x hx => ?_)
        rw [gi_si_eq]
        by_cases z : x = i
        · rw [if_pos z]
        · rw [if_neg z]; exact hz x (by omega)
  exact LL L.length 0 M1 (by omega) zSm.rf (fun x hx => by omega)
theorem blS_succ {oc : List Int → Int} {ps : List Int → Option (List nd)} {again : Bool} {f : Nat} (h : ps ty = some L) : blS on oc ps again (f + 1) ty j = if again = true ∧ (l1S on oc L ty j).2.2.2.2.2 = 0 ∧ (l1S on oc L ty j).1.length < ty.length then blS on oc ps again f (l1S on oc L ty j).1 (l1S on oc L ty j).2 else l1S on oc L ty j := by
  show (match ps ty with
    | none => (ty, j)
    | some L => if again = true ∧ (l1S on oc L ty j).2.2.2.2.2 = 0 ∧ (l1S on oc L ty j).1.length < ty.length then blS on oc ps again f (l1S on oc L ty j).1 (l1S on oc L ty j).2 else l1S on oc L ty j) = _
  rw [h]
theorem blS_none {oc : List Int → Int} {ps : List Int → Option (List nd)} {again : Bool} {f : Nat} (h : ps ty = none) : blS on oc ps again f ty j = (ty, j) := by
  cases f with
  | zero => rfl
  | succ f =>
    show (match ps ty with
      | none => (ty, j)
      | some L => if again = true ∧ (l1S on oc L ty j).2.2.2.2.2 = 0 ∧ (l1S on oc L ty j).1.length < ty.length then blS on oc ps again f (l1S on oc L ty j).1 (l1S on oc L ty j).2 else l1S on oc L ty j) = _
    rw [h]
theorem l_X9_again2 : ∀ (f : Nat) (M1 : zM) (ty : List Int) (j : JS) (L : List nd), ty.length < f → FM M M1 → MS M1 ty wr sk w u G j on rd → PM M1 L → prG G ty = some L → j.2.2.2.2 = 0 →
    (∀ M', FM M M' → MS M' (blS on (ocA w u) (prG G) true f ty j).1 wr sk w u G (blS on (ocA w u) (prG G) true f ty j).2 on rd → Kv M') → zGv B zy_X9_againByDepths 9 0 0 n0 Kv 2 [some (zR 45), some (zI 1), none] [] M1 0 0 := by
  intro f
  induction f with
  | zero => intro M1 ty j L h; omega
  | succ f ih =>
    intro M1 ty j L hf fm h hP hp hen k
    have e47 : gi M1 45 47 = j.2.2.2.2 := h.2.2.2.2.1.2.2.2.2.1
    rw [blS_succ hp] at k
    apply b_X9_againByDepths_2
    case k1 => intro q; exact absurd q (by decide)
    case k2 => intro _ q; rw [e47] at q; exact absurd hen q
    case k3 =>
      intro _ _
      rw [h.1.1]
      refine m_X9_byDepths h hP hp (fun M2 f2 h2 => ?_)
      generalize l1S on (ocA w u) L ty j = r at *
      have e47b : gi M2 45 47 = r.2.2.2.2.2 := h2.2.2.2.2.1.2.2.2.2.1
      have e1 : gi M2 45 1 = (r.1.length : Int) := h2.1.1
      have fin : ¬ (true = true ∧ r.2.2.2.2.2 = 0 ∧ r.1.length < ty.length) → zGv B zy_X9_againByDepths 9 0 0 n0 Kv 2 [some (zR 45), some (zI 0), none] [] M2 0 0 := fun q => by
        rw [if_neg q] at k
        apply b_X9_againByDepths_2
        case k1 => intro _; exact k M2 (fm.tr f2) h2
        all_goals (intro z; exact absurd rfl z)
      apply b_X9_againByDepths_22
      case k1 => intro q; rw [e1] at q; exact fin (fun z => by omega)
      case k2 => intro _ q; rw [e47b] at q; exact fin (fun z => q z.2.1)
      case k3 =>
        intro q1 q2
        rw [e1] at q1
        rw [e47b] at q2
        rw [if_pos ⟨rfl, q2, by omega⟩] at k
        refine h2.parse (fun hq M3 f3 e3 => ?_) (fun L2 hq M3 f3 hP3 => ?_)
        · obtain ⟨h3, fm3⟩ := h2.pf f3
          rw [blS_none hq] at k
          apply b_X9_againByDepths_49
          apply b_X9_againByDepths_2
          case k1 => intro _; exact k M3 (fm.tr (f2.tr fm3)) h3
          all_goals (intro z; exact absurd rfl z)
        · obtain ⟨h3, fm3⟩ := h2.pf f3
          apply b_X9_againByDepths_49
          exact ih M3 r.1 r.2 L2 (by omega) (fm.tr (f2.tr fm3)) h3 hP3 hq q2 k
theorem m_X9_againByDepths (h : MS M ty wr sk w u G j on rd) (hP : PM M L) (hp : prG G ty = some L) (hen : j.2.2.2.2 = 0) (k : ∀ M', FM M M' → MS M' (blS on (ocA w u) (prG G) true 33 ty j).1 wr sk w u G (blS on (ocA w u) (prG G) true 33 ty j).2 on rd → Kv M') : zCv B zy_X9_againByDepths 9 0 0 [zR 45] M Kv := by
  have h32 := h.1.2.2.1
  refine e_X9_againByDepths (fun n0 => ?_)
  apply b_X9_againByDepths_0
  exact l_X9_again2 33 M ty j L (by omega) FM.rf h hP hp hen k
end MN30
