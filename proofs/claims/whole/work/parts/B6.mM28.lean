/-! ===== by places: the model ===== -/
section MN28
variable {B : zB} {n0 : Nat} {K : Int → zM → Prop} {Kv : zM → Prop} {M : zM} {ty wr : List Int} {sk : List (List st3 × Int)} {w u : List st3} {G : Option GC} {j : JS} {on rd : Int}
/-- what setting a base changes -/
def SBF (M M' : zM) : Prop := zSm [45, 78] M M' ∧ ∀ q, q ≠ 51 → q ≠ 52 → q ≠ 55 → gi M' 45 q = gi M 45 q
theorem m_X9_setBase (h : MS M ty wr sk w u G j on rd) (k : ∀ M', SBF M M' → MS M' ty wr sk w u G j on rd → bM M' ty → BT (gi M' 45 52) ty.length (fun _ => true) → (∀ nu, UM M' ty.length nu []) → Kv M') : zCv B zy_X9_setBase 2 0 0 [zR 45] M Kv := by
  obtain ⟨t1, t2, t3⟩ := id h.1
  have h32 := t3.1
  have L : ∀ (d i n0 : Nat) (M1 : zM), i + d = ty.length → zSm [45, 78] M M1 → (∀ q, q ≠ 51 → gi M1 45 q = gi M 45 q) → gi M1 45 51 = (ty.length : Int) → zA M1 78 (ty.take i) → zGv B zy_X9_setBase 2 0 0 n0 Kv 10 [some (zR 45), some (zI (i : Int))] [] M1 0 0 := by
    intro d
    induction d with
    | zero =>
      intro i n0 M1 hi f e e51 hz
      have e1 : gi M1 45 1 = (ty.length : Int) := (e 1 (by decide)).trans t1
      rw [List.take_of_length_le (by omega)] at hz
      apply b_X9_setBase_10
      case k1 =>
        intro _
        rw [e1]
        refine p_X9_run (Int.le_refl _) (by omega) (by omega) (fun x hx => ?_)
        apply b_X9_setBase_45
        have f2 : zSm [45, 78] M (si (si M1 45 52 x) 45 55 0) := (f.st (by decide)).st (by decide)
        have e2 : ∀ q, q ≠ 52 → q ≠ 55 → gi (si (si M1 45 52 x) 45 55 0) 45 q = gi M1 45 q := fun q h1 h2 => by rw [gi_si_eq, if_neg h2, gi_si_eq, if_neg h1]
        refine k _ ⟨f2, fun q h1 h2 h3 => (e2 q h2 h3).trans (e q h1)⟩ (h.scr f2 (by decide) (fun q hq => (e2 q (fun y => hq (by unfold scrQ; omega)) (fun y => hq (by unfold scrQ; omega))).trans (e q (fun y => hq (by unfold scrQ; omega))))) ⟨(e2 51 (by decide) (by decide)).trans e51, hz.same (by rw [gi_si_ne (by decide), gi_si_ne (by decide)])⟩ (fun i hi => ?_) (fun nu => ⟨by rw [gi_si_eq, if_pos rfl]; rfl, by decide, fun i v hv => by cases hv⟩)
        rw [gi_si_eq, if_neg (by decide), gi_si_eq, if_pos rfl, hx i (by omega)]
        simp only [Bool.and_eq_true, decide_eq_true_eq]
        omega
      all_goals (intro q; rw [e1] at q; omega)
    | succ d ih =>
      intro i n0 M1 hi f e e51 hz
      have e1 : gi M1 45 1 = (ty.length : Int) := (e 1 (by decide)).trans t1
      have ei : ((i : Int)).toNat = i := rfl
      apply b_X9_setBase_10
      case k1 => intro q; rw [e1] at q; omega
      case k2 =>
        intro _
        rw [ei, f.ge (by decide : (46 : Nat) ∉ [45, 78]), t2.get (by omega)]
        refine ih (i + 1) n0 _ (by omega) (f.st (by decide)) (fun q hq => by rw [gi_si_ne (by decide)]; exact e q hq) (by rw [gi_si_ne (by decide)]; exact e51) ?_
        rw [take_succ' (by omega)]
        have h5 := hz.app1 (x := ty.getD i 0)
        rw [List.length_take, show min i ty.length = i from by omega] at h5
        exact h5
      all_goals (intros; omega)
  refine e_X9_setBase (fun n0 => ?_)
  apply b_X9_setBase_0
  rw [t1]
  exact L ty.length 0 n0 _ (by omega) (zSm.rf.st (by decide)) (fun q hq => by rw [gi_si_eq, if_neg hq]) (by rw [gi_si_eq, if_pos rfl]) zA.nil
theorem SBF.fm {M M' : zM} (h : SBF M M') : FM M M' := zSm.fm h.1 (by decide)
theorem LFm.fm {M M' : zM} (h : LFm M M') : FM M M' := zSm.fm h.1 (by decide)
theorem bgW_iff {b : List Int} {i : Nat} (h0 : 0 < i) (hi : i < b.length) : bgW b i = true ↔ ((¬ b.getD i 0 = 32) ∧ b.getD (i - 1) 0 = 32) := by
  unfold bgW
  simp [h0, hi]
theorem sgU_succ {words : Bool} {b : List Int} {m i f : Nat} : sgU words b (m + 1) i f = if (!words || decide (i = b.length) || bgW b i) = true then ((f : Int), (i : Int), 0) :: sgU words b m (i + 1) i else sgU words b m (i + 1) f := rfl
theorem l_X9_byPlaces {words : Bool} {v1 : Int} (hv : v1 = if words = true then 1 else 0) (ho : okS ty) (k : ∀ M', FM M M' → MS M' (bsS on (ocA w u) words ty j).1 wr sk w u G (bsS on (ocA w u) words ty j).2 on rd → Kv M') :
    ∀ (m i f : Nat) (M1 : zM) (U : List un), i + m = ty.length + 1 → 1 ≤ i → f < i → U.length < i → FM M M1 → MS M1 ty wr sk w u G j on rd → bM M1 ty → BT (gi M1 45 52) ty.length (fun _ => true) → UM M1 ty.length (fun _ => -1) U → U ++ sgU words ty m i f = sgU words ty ty.length 1 0 →
      zGv B zy_X9_byPlaces 8 0 0 n0 Kv 8 [some (zR 45), some (zI v1), some (zI (f : Int)), some (zI (i : Int)), none] [] M1 0 0 := by
  have h32 := ho.1
  intro m
  induction m with
  | zero =>
    intro i f M1 U hi h1 hf hU fm h hb hth hu hsg
    have e51 := hb.1
    apply b_X9_byPlaces_8
    case k1 =>
      intro _
      have e0 : sgU words ty 0 i f = [] := rfl
      rw [e0, List.append_nil] at hsg
      have hly : LY M1 wr sk w u G on rd ty (fun _ => -1) (fun x => ¬ gi M1 81 x = 0) U (U, fun _ => true, ty, j) := ⟨h, hb, hu, hth, fun x => ⟨fun q => Or.inl q, fun q => q.elim id (fun ⟨⟨v, _, e⟩, _⟩ => by have e2 : (-1 : Int) = (x : Int) := e; omega)⟩, fun v hv => hv, fun i k v w _ _ h0 _ => by have e2 : (0 : Int) ≤ -1 := h0; omega⟩
      refine m_X9_lessen (fun v _ => by decide) ho hly (fun M2 f2 h2 => ?_)
      apply b_X9_byPlaces_88
      have e : bsS on (ocA w u) words ty j = (lesS on (ocA w u) ty (U, fun _ => true, ty, j)).2.2 := by
        unfold bsS
        rw [← hsg]
      rw [e] at k
      exact k M2 (fm.tr f2.fm) h2.1
    all_goals (intro q; omega)
  | succ m ih =>
    intro i f M1 U hi h1 hf hU fm h hb hth hu hsg
    have e51 := hb.1
    have ei : ((i : Int)).toNat = i := rfl
    have ei1 : ((i : Int) - 1).toNat = i - 1 := by omega
    have hcond : ∀ y : Int, y = (if (i : Int) = gi M1 45 51 ∨ (v1 = 0 ∨ ((¬ gi M1 78 ((i : Int)).toNat = 32) ∧ gi M1 78 ((i : Int) - 1).toNat = 32)) then 1 else 0) → (¬ y = 0 ↔ (!words || decide (i = ty.length) || bgW ty i) = true) := fun y hy => by
      rw [ei, ei1, e51] at hy
      have hw0 : v1 = 0 ↔ words = false := by rw [hv]; cases words <;> simp
      have hyc : ¬ y = 0 ↔ ((i : Int) = (ty.length : Int) ∨ (v1 = 0 ∨ ((¬ gi M1 78 i = 32) ∧ gi M1 78 (i - 1) = 32))) := by
        rw [hy]
        split
        · next q => exact ⟨fun _ => q, fun _ => by decide⟩
        · next q => exact ⟨fun z => absurd rfl z, fun z => absurd z q⟩
      rw [hyc, Bool.or_eq_true, Bool.or_eq_true, decide_eq_true_eq, Bool.not_eq_true', hw0]
      by_cases z : i < ty.length
      · rw [bgW_iff (by omega) z, hb.2.get z, hb.2.get (by omega)]
        constructor
        · rintro (q | q | q)
          · exact Or.inl (Or.inr (by omega))
          · exact Or.inl (Or.inl q)
          · exact Or.inr q
        · rintro ((q | q) | q)
          · exact Or.inr (Or.inl q)
          · exact Or.inl (by omega)
          · exact Or.inr (Or.inr q)
      · exact ⟨fun _ => Or.inl (Or.inr (by omega)), fun _ => Or.inl (by omega)⟩
    apply b_X9_byPlaces_8
    case k1 => intro q; rw [e51] at q; omega
    case c1 => intro q q2 _; rw [e51] at q q2; omega
    case c2 => intro _ _ _ _; omega
    case c3 => intro q q2 _ _; rw [e51] at q q2; omega
    case c4 => intro _ _ _ _; omega
    case c5 => intro _ _ _ _; omega
    case k2 =>
      intro _ y hy hy0
      have hc := hcond y hy
      rw [sgU_succ] at hsg
      rw [if_neg (fun q => absurd hy0 (hc.mpr q))] at hsg
      exact ih (i + 1) f M1 U (by omega) (by omega) (by omega) (by omega) fm h hb hth hu hsg
    case k3 =>
      intro q y hy hy0
      rw [e51] at q
      have hc := (hcond y hy).mp hy0
      rw [sgU_succ] at hsg
      rw [if_pos hc] at hsg
      refine p_X9_run (by omega) (by omega) (by omega) (fun x hx => ?_)
      apply b_X9_byPlaces_72
      refine m_X9_addUnit (u := ((f : Int), (i : Int), 0)) hu (by omega) (fun q hq => ?_) rfl (fun M2 f2 e2 hu2 => ?_)
      · rw [hx q (by omega)]
        unfold inU
        dsimp only
        rw [show (f : Int) + ((i : Int) - (f : Int)) = (i : Int) from by omega]
      · apply b_X9_byPlaces_76
        case c1 => omega
        case k1 =>
          refine ih (i + 1) i M2 (U ++ [((f : Int), (i : Int), 0)]) (by omega) (by omega) (by omega) (by rw [List.length_append, List.length_singleton]; omega) (fm.tr (f2.fm (by decide))) (h.scr f2 (by decide) (fun q hq => e2 q (fun y => hq (by unfold scrQ; omega)))) (hb.same (e2 51 (by decide)) (f2.ge (by decide))) (by rw [e2 52 (by decide)]; exact hth) hu2 (by rw [List.append_assoc]; exact hsg)
theorem m_X9_byPlaces {words : Bool} {p1 : Int} (hv : p1 = if words = true then 1 else 0) (h : MS M ty wr sk w u G j on rd) (k : ∀ M', FM M M' → MS M' (bsS on (ocA w u) words ty j).1 wr sk w u G (bsS on (ocA w u) words ty j).2 on rd → Kv M') : zCv B zy_X9_byPlaces 8 0 0 [zR 45, zI p1] M Kv := by
  refine e_X9_byPlaces (fun n0 => ?_)
  apply b_X9_byPlaces_0
  refine m_X9_setBase h (fun M1 f1 h1 hb hth hU => ?_)
  apply b_X9_byPlaces_4
  exact l_X9_byPlaces (M := M) hv h.1.2.2 k ty.length 1 0 M1 [] (by omega) (Nat.le_refl _) (by decide) (by decide) f1.fm h1 hb hth (hU _) rfl
end MN28
