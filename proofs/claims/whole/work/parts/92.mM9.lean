/-! ===== order: the model ===== -/
section NM9
variable {B : zB} {K : Int → zM → Prop} {Kv : zM → Prop} {M : zM} {g : zG}
theorem m_X9_clearDone (k : ∀ M', zSm [82] M M' → (∀ r, r < 6 → gi M' 82 r = 0) → Kv M') : zCv B zy_X9_clearDone 1 0 0 [zR 45] M Kv := by
  have L0 : ∀ (d i n0 : Nat) (M1 : zM), i + d = 6 → zSm [82] M M1 → (∀ q, q < i → gi M1 82 q = 0) → zGv B zy_X9_clearDone 1 0 0 n0 Kv 2 [some (zR 45), some (zI (i : Int))] [] M1 0 0 := by
    intro d
    induction d with
    | zero =>
      intro i n0 M1 hi f h
      apply b_X9_clearDone_2
      case k1 => exact fun _ => k M1 f (fun r hr => h r (by omega))
      all_goals (intros; omega)
    | succ d ih =>
      intro i n0 M1 hi f h
      apply b_X9_clearDone_2
      case k2 =>
        intro _
        refine ih (i + 1) n0 _ (by omega) (f.st (by decide)) (fun q hq => ?_)
        rw [show ((i : Int)).toNat = i from rfl, gi_si_eq]
        by_cases z : q = i
        · rw [if_pos z]
        · rw [if_neg z]; exact h q (by omega)
      all_goals (intros; omega)
  refine e_X9_clearDone (fun n0 => ?_)
  apply b_X9_clearDone_0
  exact L0 6 0 n0 M rfl zSm.rf (fun q hq => by omega)
def ROm (M : zM) (od : List Nat) : Prop := (∀ i, i < od.length → gi M 61 i = (od.getD i 0 : Nat)) ∧ ∀ r, r < 6 → gi M 82 r = iO od r
theorem iO_ne {od : List Nat} {r : Nat} : (¬ iO od r = 0) ↔ r ∈ od := by
  unfold iO
  by_cases z : r ∈ od
  · simp [z]
  · simp [z]
theorem m_X9_findOrder {em : Nat → Bool} (hx : RM M g) (hw : WG g) (hL : LM M (fun r q => 0 ≤ gR g r ∧ LT g em r (gE g r) q))
    (k : ∀ M', zSm [61, 82] M M' → (∀ i, i < (itO g em 6).length → gi M' 61 i = ((itO g em 6).getD i 0 : Nat)) → K (if ((itO g em 6).length : Int) = gi M 45 12 then 1 else 0) M') : zCi B zy_X9_findOrder 2 0 0 [zR 45] M K := by
  -- whether a rule is ready
  have L0 : ∀ (n i n0 : Nat) (od : List Nat) (M1 : zM), i < 6 → zSm [61, 82] M M1 → ROm M1 od → WO g em od →
      (¬ plc g em od i → zGi B zy_X9_findOrder 2 0 0 n0 K 16 [some (zR 45), some (zI (od.length : Int)), some (zI (n : Int)), some (zI ((i : Int) + 1)), none, none] [] M1 0 0) →
      (plc g em od i → ∀ M', zSm [61, 82] M M' → ROm M' (od ++ [i]) → zGi B zy_X9_findOrder 2 0 0 n0 K 16 [some (zR 45), some (zI ((od.length : Int) + 1)), some (zI (n : Int)), some (zI ((i : Int) + 1)), none, none] [] M' 0 0) →
      ∀ (d q : Nat) (v : Int), q + d = 6 → (v = 0 ∨ v = 1) → (v = 1 ↔ 0 ≤ gR g i ∧ i ∉ od ∧ ∀ q', q' < q → LT g em i (gE g i) q' → q' ∈ od) →
      zGi B zy_X9_findOrder 2 0 0 n0 K 50 [some (zR 45), some (zI (od.length : Int)), some (zI (n : Int)), some (zI (i : Int)), some (zI v), some (zI (q : Int))] [] M1 0 0 := by
    intro n i n0 od M1 hi f hO hWO kn ky d
    have ei : ((i : Int)).toNat = i := rfl
    have eo : ((od.length : Int)).toNat = od.length := rfl
    have lt6 : i ∉ od → od.length < 6 := fun z => by
      have := hWO.2.1
      unfold cO at this
      have a0 := iO_bd (od := od) (r := 0)
      have a1 := iO_bd (od := od) (r := 1)
      have a2 := iO_bd (od := od) (r := 2)
      have a3 := iO_bd (od := od) (r := 3)
      have a4 := iO_bd (od := od) (r := 4)
      have a5 := iO_bd (od := od) (r := 5)
      have zi : iO od i = 0 := by unfold iO; rw [if_neg z]
      have : i = 0 ∨ i = 1 ∨ i = 2 ∨ i = 3 ∨ i = 4 ∨ i = 5 := by omega
      rcases this with rfl | rfl | rfl | rfl | rfl | rfl <;> omega
    induction d with
    | zero =>
      intro q v hq hv hv2
      have hpl : v = 1 ↔ plc g em od i := by
        rw [hv2]
        unfold plc
        constructor
        · rintro ⟨h1, h2, h3⟩
          exact ⟨h1, h2, (LPd_LT hw hi h1).mpr (fun q' h4 h5 => h3 q' (by omega) h5)⟩
        · rintro ⟨h1, h2, h3⟩
          exact ⟨h1, h2, fun q' h4 h5 => (LPd_LT hw hi h1).mp h3 q' (by omega) h5⟩
      apply b_X9_findOrder_50
      case k1 => exact fun _ z => kn (fun w => by have := hpl.mpr w; omega)
      case k2 =>
        intro _ z
        have w := hpl.mp (by omega)
        rw [ei, eo]
        refine ky w _ ((f.st (by decide)).st (by decide)) ⟨fun j hj => ?_, fun r hr => ?_⟩
        · rw [List.length_append, List.length_singleton] at hj
          rw [gi_si_eq]
          by_cases y : j = od.length
          · rw [if_pos y, y]; simp [List.getD]
          · rw [if_neg y, gi_si_ne (by decide), hO.1 j (by omega)]
            simp [List.getD, List.getElem?_append_left (by omega : j < od.length)]
        · rw [gi_si_ne (by decide), gi_si_eq, iO_app w.2.1, hO.2 r hr]
          by_cases y : r = i
          · rw [if_pos y, if_pos y, y]
            unfold iO
            rw [if_neg w.2.1]
            rfl
          · rw [if_neg y, if_neg y]; omega
      case k3 => intro z; omega
      case c3 =>
        intro _ z
        have := lt6 (hv2.mp (by omega)).2.1
        omega
      case c4 =>
        intro _ z
        have := lt6 (hv2.mp (by omega)).2.1
        omega
      all_goals (intros; omega)
    | succ d ih =>
      intro q v hq hv hv2
      apply b_X9_findOrder_50
      case k3 =>
        intro _ y hy
        refine ih (q + 1) y (by omega) (by rw [hy]; split <;> simp) ?_
        rw [(by omega : (6 * (i : Int) + (q : Int)).toNat = 6 * i + q), show ((q : Int)).toNat = q from rfl] at hy
        have h60 : (¬ gi M1 60 (6 * i + q) = 0) ↔ (0 ≤ gR g i ∧ LT g em i (gE g i) q) := by rw [f.ge (a := 60) (by decide)]; exact hL i q hi (by omega)
        have h82 : (¬ gi M1 82 q = 0) ↔ q ∈ od := by rw [hO.2 q (by omega)]; exact iO_ne
        constructor
        · intro z
          by_cases w : (¬ v = 0) ∧ (gi M1 60 (6 * i + q) = 0 ∨ ¬ gi M1 82 q = 0)
          · obtain ⟨h1, h2, h3⟩ := hv2.mp (by omega)
            refine ⟨h1, h2, fun q' h4 h5 => ?_⟩
            by_cases u : q' = q
            · rw [u] at h5 ⊢
              rcases w.2 with w2 | w2
              · exact absurd w2 (h60.mpr ⟨h1, h5⟩)
              · exact h82.mp w2
            · exact h3 q' (by omega) h5
          · rw [if_neg w] at hy; omega
        · rintro ⟨h1, h2, h3⟩
          rw [hy, if_pos]
          refine ⟨fun z => ?_, ?_⟩
          · have := hv2.mpr ⟨h1, h2, fun q' h4 h5 => h3 q' (by omega) h5⟩
            omega
          · by_cases w : gi M1 60 (6 * i + q) = 0
            · exact Or.inl w
            · exact Or.inr (h82.mpr (h3 q (by omega) (h60.mp w).2))
      case k1 => intro z; omega
      case k2 => intro z; omega
      all_goals (intros; omega)
  have L1 : ∀ (n n0 : Nat) (kn : ∀ M', zSm [61, 82] M M' → ROm M' (itO g em (n + 1)) → zGi B zy_X9_findOrder 2 0 0 n0 K 8 [some (zR 45), some (zI ((itO g em (n + 1)).length : Int)), some (zI ((n : Int) + 1)), none, none, none] [] M' 0 0), n < 6 → ∀ (d i : Nat) (M1 : zM), i + d = 6 → zSm [61, 82] M M1 → ROm M1 (rO g em (itO g em n) i) →
      zGi B zy_X9_findOrder 2 0 0 n0 K 16 [some (zR 45), some (zI ((rO g em (itO g em n) i).length : Int)), some (zI (n : Int)), some (zI (i : Int)), none, none] [] M1 0 0 := by
    intro n n0 kn hn d
    induction d with
    | zero =>
      intro i M1 hi f hO
      apply b_X9_findOrder_16
      case k1 =>
        intro _
        rw [(by omega : i = 6)] at hO ⊢
        exact kn M1 f hO
      all_goals (intros; omega)
    | succ d ih =>
      intro i M1 hi f hO
      have ei : ((i : Int)).toNat = i := rfl
      have hWO : WO g em (rO g em (itO g em n) i) := (WO.itOk n).rOk (by omega)
      have nxt : rO g em (itO g em n) (i + 1) = fO g em (rO g em (itO g em n) i) i := by
        unfold rO
        rw [List.range_succ, List.foldl_append]
        rfl
      have go := ih (i + 1)
      rw [nxt] at go
      generalize rO g em (itO g em n) i = od at *
      have x5 := (hx.2.2.2.2 i (by omega)).1
      have e57 : gi M1 57 i = gR g i := by rw [f.ge (by decide)]; exact x5
      apply b_X9_findOrder_16
      case k2 =>
        intro _
        rw [ei, e57, hO.2 i (by omega)]
        refine L0 n i n0 od M1 (by omega) f hO hWO (fun z => ?_) (fun z M' f' hO' => ?_) 6 0 _ rfl (by split <;> simp) ?_
        · have e : fO g em od i = od := by unfold fO; rw [if_neg z]
          rw [e] at go
          exact go M1 (by omega) f hO
        · have e : fO g em od i = od ++ [i] := by unfold fO; rw [if_pos z]
          rw [e] at go
          have := go M' (by omega) f' hO'
          rw [List.length_append, List.length_singleton] at this
          exact this
        · have hne := iO_ne (od := od) (r := i)
          by_cases w : 0 ≤ gR g i ∧ iO od i = 0
          · rw [if_pos w]
            exact ⟨fun _ => ⟨w.1, fun q => (hne.mpr q) w.2, fun q' h4 => by omega⟩, fun _ => rfl⟩
          · rw [if_neg w]
            refine ⟨fun q => by omega, fun q => absurd ⟨q.1, ?_⟩ w⟩
            by_cases v : iO od i = 0
            · exact v
            · exact absurd (hne.mp v) q.2.1
      all_goals (intros; omega)
  have L2 : ∀ (d n n0 : Nat) (M1 : zM), n + d = 6 → zSm [61, 82] M M1 → ROm M1 (itO g em n) → zGi B zy_X9_findOrder 2 0 0 n0 K 8 [some (zR 45), some (zI ((itO g em n).length : Int)), some (zI (n : Int)), none, none, none] [] M1 0 0 := by
    intro d
    induction d with
    | zero =>
      intro n n0 M1 hn f hO
      apply b_X9_findOrder_8
      case k1 =>
        intro _
        rw [(by omega : n = 6)] at hO ⊢
        rw [f.ge (by decide)]
        exact k M1 f hO.1
      all_goals (intros; omega)
    | succ d ih =>
      intro n n0 M1 hn f hO
      apply b_X9_findOrder_8
      case k2 =>
        intro _
        exact L1 n n0 (fun M2 f2 hO2 => ih (n + 1) n0 M2 (by omega) f2 hO2) (by omega) 6 0 M1 rfl f hO
      all_goals (intros; omega)
  refine e_X9_findOrder (fun n0 => ?_)
  apply b_X9_findOrder_0
  refine m_X9_clearDone (fun M1 f1 h1 => ?_)
  apply b_X9_findOrder_6
  exact L2 6 0 n0 M1 rfl (f1.mono (by decide)) ⟨fun i hi => absurd hi (by simp [itO]), fun r hr => by rw [h1 r hr]; simp [iO, itO]⟩
end NM9
