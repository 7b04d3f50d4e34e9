/-! ===== a grammar is read: the class ===== -/
section K6
variable {B : zB} {K : Int → zM → Prop} {Kv : zM → Prop} {M : zM} {g : zG}
theorem m_X0_findOrder {em : Nat → Bool} (hx : RX M g) (hw : WG g) (he : ∀ r, r < 6 → eX M r = em r) (h0 : gi M 8 4 = 0 ∧ ∀ r, r < 6 → gi M 18 r = 0)
    (k : ∀ M', zSm [8, 9, 18] M M' → gi M' 8 0 = gi M 8 0 → gi M' 8 1 = gi M 8 1 → gi M' 8 2 = gi M 8 2 → RX M' g → RO M' (itO g em 6) → Kv M') : zCv B zy_X0_findOrder 4 0 0 [zR 8] M Kv := by
  let S : zM → Prop := fun M' => zSm [8, 9, 18] M M' ∧ gi M' 8 0 = gi M 8 0 ∧ gi M' 8 1 = gi M 8 1 ∧ gi M' 8 2 = gi M 8 2 ∧ RX M' g
  have S17 : ∀ M', S M' → ∀ r, r < 6 → eX M' r = em r := fun M' h r hr => by
    rw [← he r hr]
    unfold eX
    rw [h.1.ge (by decide)]
  have L1 : ∀ (n n0 : Nat) (kn : ∀ M', S M' → RO M' (itO g em (n + 1)) → zGv B zy_X0_findOrder 4 0 0 n0 Kv 2 [some (zR 8), some (zI ((n : Int) + 1)), none] [] M' 0 0), n < 6 → ∀ (d i : Nat) (M1 : zM), i + d = 6 → S M1 → RO M1 (rO g em (itO g em n) i) →
      zGv B zy_X0_findOrder 4 0 0 n0 Kv 10 [some (zR 8), some (zI (n : Int)), some (zI (i : Int))] [] M1 0 0 := by
    intro n n0 kn hn d
    induction d with
    | zero =>
      intro i M1 hi hS hO
      apply b_X0_findOrder_10
      case k1 => exact fun _ => kn M1 hS (by rw [(by omega : i = 6)] at hO; exact hO)
      all_goals (intros; omega)
    | succ d ih =>
      intro i M1 hi hS hO
      have ei : ((i : Int)).toNat = i := rfl
      have hWO : WO g em (rO g em (itO g em n) i) := (WO.itOk n).rOk (by omega)
      have nxt : rO g em (itO g em n) (i + 1) = fO g em (rO g em (itO g em n) i) i := by
        unfold rO
        rw [List.range_succ, List.foldl_append]
        rfl
      have same : ¬ plc g em (rO g em (itO g em n) i) i → zGv B zy_X0_findOrder 4 0 0 n0 Kv 10 [some (zR 8), some (zI (n : Int)), some (zI ((i : Int) + 1))] [] M1 0 0 := fun z => by
        refine ih (i + 1) M1 (by omega) hS ?_
        rw [nxt]
        unfold fO
        rw [if_neg z]
        exact hO
      generalize rO g em (itO g em n) i = od at *
      obtain ⟨o1, o2, o3⟩ := hO
      have h16 := (hS.2.2.2.2.2.2.2.2 i (by omega)).1
      have h18 := o3 i (by omega)
      have lt6 : i ∉ od → od.length < 6 := fun z => by
        have := hWO.2.1
        unfold cO at this
        have a0 := iO_bd (od := od) (r := 0)
        have a1 := iO_bd (od := od) (r := 1)
        have a2 := iO_bd (od := od) (r := 2)
        have a3 := iO_bd (od := od) (r := 3)
        have a4 := iO_bd (od := od) (r := 4)
        have a5 := iO_bd (od := od) (r := 5)
        have zi : iO od i = 0 := by unfold iO; rw [if_neg z]
        have : i = 0 ∨ i = 1 ∨ i = 2 ∨ i = 3 ∨ i = 4 ∨ i = 5 := by omega
        rcases this with rfl | rfl | rfl | rfl | rfl | rfl <;> omega
      apply b_X0_findOrder_10
      case k2 =>
        intro _ q
        rw [ei] at q
        refine same (fun z => ?_)
        rw [if_neg (by have := z.1; omega)] at h16
        omega
      case k3 =>
        intro _ _ q
        rw [ei] at q
        refine same (fun z => ?_)
        unfold iO at h18
        rw [if_neg z.2.1] at h18
        omega
      case k4 =>
        intro _ _ _ q
        exact same (fun z => by have := lt6 z.2.1; omega)
      case k5 =>
        intro _ q q2 q3
        rw [ei] at q q2
        have hR : 0 ≤ gR g i := by
          by_cases w : gR g i < 0
          · rw [if_pos w] at h16; omega
          · omega
        have hn : i ∉ od := fun w => by unfold iO at h18; rw [if_pos w] at h18; omega
        refine m_X0_leadsToPlaced hS.2.2.2.2 hw (S17 M1 hS) ⟨o1, o2, o3⟩ (by omega) hR (fun z => ?_) (fun z => ?_)
        · apply b_X0_findOrder_48
          case k1 => exact fun _ => same (fun w => z w.2.2)
          all_goals (intros; omega)
        · apply b_X0_findOrder_48
          case k2 =>
            intro _
            rw [ei, o1, show (((od.length : Nat) : Int)).toNat = od.length from rfl]
            have f := hS.1
            refine ih (i + 1) _ (by omega) ⟨((f.st (by decide)).st (by decide)).st (by decide), by simp [gi_si]; exact hS.2.1, by simp [gi_si]; exact hS.2.2.1, by simp [gi_si]; exact hS.2.2.2.1, ?_⟩ ?_
            · obtain ⟨x1, x2, x3, x4, x5⟩ := hS.2.2.2.2
              refine ⟨by simp [gi_si]; exact x1, by simp [gi_si]; exact x2, fun j hj => ?_, fun j hj => ?_, fun r hr => ?_⟩
              · have := x3 j hj; simp [gi_si]; exact this
              · have := x4 j hj; simp [gi_si]; exact this
              · have := x5 r hr; simp [gi_si]; exact this
            · rw [nxt]
              unfold fO
              rw [if_pos ⟨hR, hn, z⟩]
              refine ⟨by simp [gi_si], fun j hj => ?_, fun r hr => ?_⟩
              · rw [List.length_append, List.length_singleton] at hj
                rw [gi_si_ne (by decide), gi_si_ne (by decide), gi_si_eq]
                by_cases w : j = od.length
                · rw [if_pos w, w]; simp [List.getD]
                · rw [if_neg w, o2 j (by omega)]
                  simp [List.getD, List.getElem?_append_left (by omega : j < od.length)]
              · rw [gi_si_eq, gi_si_ne (by decide), gi_si_ne (by decide), iO_app hn, o3 r hr]
                by_cases w : r = i
                · rw [if_pos w, if_pos w, w]
                  unfold iO
                  rw [if_neg hn]
                  rfl
                · rw [if_neg w, if_neg w]; omega
          all_goals (intros; have := lt6 hn; omega)
      all_goals (intros; omega)
  have L2 : ∀ (d n n0 : Nat) (M1 : zM), n + d = 6 → S M1 → RO M1 (itO g em n) → zGv B zy_X0_findOrder 4 0 0 n0 Kv 2 [some (zR 8), some (zI (n : Int)), none] [] M1 0 0 := by
    intro d
    induction d with
    | zero =>
      intro n n0 M1 hn hS hO
      apply b_X0_findOrder_2
      case k1 =>
        intro _
        rw [(by omega : n = 6)] at hO
        exact k M1 hS.1 hS.2.1 hS.2.2.1 hS.2.2.2.1 hS.2.2.2.2 hO
      all_goals (intros; omega)
    | succ d ih =>
      intro n n0 M1 hn hS hO
      apply b_X0_findOrder_2
      case k2 =>
        intro _
        exact L1 n n0 (fun M2 hS2 hO2 => ih (n + 1) n0 M2 (by omega) hS2 hO2) (by omega) 6 0 M1 rfl hS hO
      all_goals (intros; omega)
  refine e_X0_findOrder (fun n0 => ?_)
  apply b_X0_findOrder_0
  refine L2 6 0 n0 M rfl ⟨zSm.rf, rfl, rfl, rfl, hx⟩ ⟨h0.1, fun i hi => absurd hi (by simp [itO]), fun r hr => ?_⟩
  rw [h0.2 r hr]
  simp [iO, itO]
/-- what reading makes of what was typed -/
def okC (C : CS) : Prop := goodC C ∧ NG (finG C.2.1) ∧ ((odG (finG C.2.1)).length : Int) = C.2.2.1
noncomputable def gcC (C : CS) : GC := (finG C.2.1, (fun i => (odG (finG C.2.1)).getD i 0), (odG (finG C.2.1)).length, C.2.2.2.1.toNat, emG (finG C.2.1))
noncomputable def gcR (wr : List Int) : Option GC := @ite _ (okC (cutS wr)) (Classical.propDecidable _) (some (gcC (cutS wr))) none
theorem cntD_fin {g : zG} : cntD (finG g) = cntD g := rfl
theorem gcC_GG {wr : List Int} (hl : wr.length ≤ 60) (hg : ∀ c ∈ wr, isGs c = true) (h : okC (cutS wr)) : GG (gcC (cutS wr)).1 (gcC (cutS wr)).2.1 (gcC (cutS wr)).2.2.1 (gcC (cutS wr)).2.2.2.1 (gcC (cutS wr)).2.2.2.2 := by
  have hW : WC (cutS wr) wr.length := by
    have := cut_WC hg (i := wr.length) (Nat.le_refl _)
    rw [List.take_of_length_le (Nat.le_refl _)] at this
    exact this.resolve_left (fun z => by have := h.1.1; omega)
  have w := finG_WG hW (by omega) h.1.1
  have c := hW.2.2.2.2.2.2.1
  have s := hW.2.2.2.2.2.2.2 h.1.2
  refine ⟨w, h.2.1, odG_OG w (h.2.2.trans c), (WO.itOk 6).len, ?_, ?_⟩
  · show (cutS wr).2.2.2.1.toNat < 6
    omega
  · exact s.2.2
abbrev AFr : List Nat := [8, 9, 10, 11, 12, 13, 14, 15, 16, 17, 18]
/-- the class's cells hold what was read -/
def XGo (M : zM) : Option GC → Prop
  | none => gi M 8 0 = 0
  | some c => ¬ gi M 8 0 = 0 ∧ XG M c.1 c.2.1 c.2.2.1 c.2.2.2.1 c.2.2.2.2
theorem m_X0_become {wr : List Int} (hz : zA M 3 wr) (hl : wr.length ≤ 60) (hg : ∀ c ∈ wr, isGs c = true) (k : ∀ M', zSm AFr M M' → XGo M' (gcR wr) → Kv M') : zCv B zy_X0_become 5 0 0 [zR 8, zR 3, zI (wr.length : Int)] M Kv := by
  have bad : ¬ okC (cutS wr) → ∀ M1, zSm AFr M M1 → gi M1 8 0 = 0 → Kv M1 := fun z M1 f e => by
    refine k _ f ?_
    unfold gcR
    rw [if_neg z]
    exact e
  refine e_X0_become (fun n0 => ?_)
  apply b_X0_become_0
  refine m_X0_forget (fun M1 f1 a2 a4 a8 a10 a16 => ?_)
  apply b_X0_become_4
  have hR : RC M1 iniC := by
    refine ⟨⟨a8, a10, a2, fun q => ?_, fun q => ?_⟩, fun j hj => ?_, fun j hj => ?_, fun r hr => ⟨?_, fun q => ?_⟩⟩
    · have : (0 : Int) < 0 := q; omega
    · have : (1 : Int) ≤ 0 := q; omega
    · have : (j : Int) < 0 := hj; omega
    · have : (j : Int) < 0 := hj; omega
    · rw [(a16 r hr).1, if_pos]; show (-1 : Int) < 0; omega
    · have : (0 : Int) ≤ -1 := q; omega
  have f1' : zSm AFr M M1 := f1.mono (by decide)
  refine m_X0_isCut hR (hz.same (f1.ge (by decide))) hl hg (fun z M2 f2 _ _ => ?_) (fun z M2 f2 g4 g0 hx e2 e1 => ?_)
  · apply b_X0_become_11
    case k1 => exact fun _ _ => bad (fun w => z w.1) _ ((f1'.tr (f2.mono (by decide))).st (by decide)) (by simp [gi_si])
    case k2 => exact fun _ q => absurd rfl q
    case k3 => exact fun q => absurd rfl q
  · have f2' : zSm AFr M M2 := f1'.tr (f2.mono (by decide))
    have hW : WC (cutS wr) wr.length := by
      have := cut_WC hg (i := wr.length) (Nat.le_refl _)
      rw [List.take_of_length_le (Nat.le_refl _)] at this
      exact this.resolve_left (fun w => by have := z.1; omega)
    have w := finG_WG hW (by omega) z.1
    apply b_X0_become_11
    case k1 => exact fun q => absurd q (by decide)
    case k2 => exact fun q => absurd q (by decide)
    case k3 =>
      intro _
      refine m_X0_isEveryNameDefined hx w (fun q => ?_) (fun q => ?_)
      · apply b_X0_become_18
        case k1 => exact fun _ => bad (fun v => q v.2.1) _ (f2'.st (by decide)) (by simp [gi_si])
        case k2 => exact fun v => absurd rfl v
      · apply b_X0_become_18
        case k1 => exact fun v => absurd (by decide) v
        case k2 =>
          intro _
          rw [if_pos (by decide)]
          have up : ∀ v, RX (si M2 8 0 v) (finG (cutS wr).2.1) := fun v => by
            obtain ⟨x1, x2, x3, x4, x5⟩ := hx
            refine ⟨by simp [gi_si]; exact x1, by simp [gi_si]; exact x2, fun j hj => ?_, fun j hj => ?_, fun r hr => ?_⟩
            · have := x3 j hj; simp [gi_si]; exact this
            · have := x4 j hj; simp [gi_si]; exact this
            · have := x5 r hr; simp [gi_si]; exact this
          refine m_X0_findEmptiable (up 1) w (fun r hr => ?_) (fun M3 f3 he => ?_)
          · rw [gi_si_ne (by decide), f2.ge (by decide)]
            exact (a16 r hr).2.1
          · apply b_X0_become_40
            have f3' : zSm AFr M M3 := (f2'.st (by decide)).tr (f3.mono (by decide))
            have e8 : ∀ j, gi M3 8 j = gi (si M2 8 0 1) 8 j := fun j => by rw [f3.ge (by decide)]
            refine m_X0_findOrder ((up 1).fr f3 (by decide)) w he ⟨?_, fun r hr => ?_⟩ (fun M4 f4 h0 h1 h2 hx4 hO => ?_)
            · rw [e8]; simp [gi_si]; rw [g4, a4]
            · rw [f3.ge (by decide), gi_si_ne (by decide), f2.ge (by decide)]
              exact (a16 r hr).2.2
            · apply b_X0_become_44
              have f4' : zSm AFr M M4 := f3'.tr (f4.mono (by decide))
              have hl4 : gi M4 8 4 = (odG (finG (cutS wr).2.1)).length := hO.1
              have hl2 : gi M4 8 2 = (cutS wr).2.2.1 := by rw [h2, e8]; simp [gi_si]; exact e2
              have hl1 : gi M4 8 1 = (cutS wr).2.2.2.1 := by rw [h1, e8]; simp [gi_si]; exact e1
              rw [hl4, hl2]
              by_cases v : ((odG (finG (cutS wr).2.1)).length : Int) = (cutS wr).2.2.1
              · rw [if_pos v]
                refine k _ (f4'.st (by decide)) ?_
                have ok : okC (cutS wr) := ⟨z, q, v⟩
                have gg := gcC_GG hl hg ok
                unfold gcR
                rw [if_pos ok]
                refine ⟨by simp [gi_si], ?_, ?_, fun i hi => ?_, ?_⟩
                · obtain ⟨x1, x2, x3, x4, x5⟩ := hx4
                  refine ⟨by simp [gi_si]; exact x1, by simp [gi_si]; exact x2, fun j hj => ?_, fun j hj => ?_, fun r hr => ?_⟩
                  · have := x3 j hj; simp [gi_si]; exact this
                  · have := x4 j hj; simp [gi_si]; exact this
                  · have := x5 r hr; simp [gi_si]; exact this
                · simp [gi_si]; rw [hl2, ← v]; rfl
                · rw [gi_si_ne (by decide)]
                  exact hO.2.1 i hi
                · simp [gi_si]; rw [hl1]
                  have s := hW.2.2.2.2.2.2.2 z.2
                  show _ = (((cutS wr).2.2.2.1.toNat : Nat) : Int)
                  omega
              · rw [if_neg v]
                exact bad (fun u => v u.2.2) _ (f4'.st (by decide)) (by simp [gi_si])
end K6
