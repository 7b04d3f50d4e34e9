/-! ===== Reducer: bySigns, chooseUnits, keepUnits ===== -/
theorem LX.ok {M : zM} {on : Int} {z : LSt} (h : LX M on z) : okS z.2.2.1 := h.2.2.2.1
section BS
variable {B : zB} {on : Int} {oc : List Int → Int}
theorem l_X4_bySigns {n0 : Nat} {K : zM → Prop} {words : Bool} {v1 : Int} (hv : v1 = if words = true then 1 else 0) {ty : List Int} (ho : okS ty) {j : JS} : ∀ (m i f : Nat) (M : zM) (U : List un), i + m = ty.length + 1 → 1 ≤ i → f < i → U.length < i → okU U → okR M → ocX M = oc → tT M 36 ty → tT M 1 ty → UX M U → thX M 40 (fun _ => true) → JX M on j →
    (∀ M', zSm LFr M M' → LX M' on (lesS on oc ty (U ++ sgU words ty m i f, fun _ => true, ty, j)) → K M') →
    zGv B zy_X4_bySigns 14 0 0 n0 K 11 [some (zR 31), some (zI v1), some (zI f), some (zI i)] [] M 0 0 := by
  have hol := ho.1
  intro m
  induction m with
  | zero =>
    intro i f M U hi h1 hf hl hok hR hoc h36 hty hU hth hj k
    have e := hty.1
    apply b_X4_bySigns_11 (s := ty)
    case k1 =>
      intro _
      refine m_X2_lessen (b := ty) (z := (U, fun _ => true, ty, j)) ho hR hoc h36 ⟨hU, hth, hty, ho, hj, hok⟩ (fun M' g1 g2 => b_X4_bySigns_70 (k M' g1 ?_))
      simpa [sgU] using g2
    all_goals first | assumption | (intros; omega)
  | succ m ih =>
    intro i f M U hi h1 hf hl hok hR hoc h36 hty hU hth hj k
    have e := hty.1
    have hadd : (!words || decide (i = ty.length) || bgW ty i) = true → zCv B zy_X2_addUnit 1 0 0 [zR 35, zI f, zI i, zI 0] M (fun M' => zGv B zy_X4_bySigns 14 0 0 n0 K 55 [some (zR 31), some (zI v1), some (zI f), some (zI i)] [] M' 0 0) := fun hc => by
      refine m_X2_addUnit hU (by omega) (fun M1 f1 g1 g2 g3 => ?_)
      apply b_X4_bySigns_55
      · omega
      · refine ih (i + 1) i M1 (U ++ [((f : Int), (i : Int), 0)]) (by omega) (by omega) (by omega) (by simp; omega) (fun u hu => ?_) (hR.same f1.2.1) (by rw [ocX_fr hR f1 (by decide), hoc]) (h36.fr f1 (by decide) (by decide)) (hty.fr f1 (by decide) (by decide)) g3 (hth.fr f1 (by decide)) (hj.fr f1 (by decide) (by decide) (by decide)) (fun M' a1 a2 => k M' ((f1.mono (by simp [LFr])).tr a1) ?_)
        · rcases List.mem_append.mp hu with h | h
          · exact hok u h
          · rw [List.mem_singleton] at h
            subst h
            dsimp only
            omega
        · rw [sgU, if_pos hc]
          rw [List.append_assoc] at a2
          exact a2
    have hskip : ¬ (!words || decide (i = ty.length) || bgW ty i) = true → zGv B zy_X4_bySigns 14 0 0 n0 K 11 [some (zR 31), some (zI v1), some (zI f), some (zI ((i : Int) + 1))] [] M 0 0 := fun hc =>
      ih (i + 1) f M U (by omega) (by omega) (by omega) (by omega) hok hR hoc h36 hty hU hth hj (fun M' a1 a2 => k M' a1 (by rw [sgU, if_neg hc]; exact a2))
    apply b_X4_bySigns_11 (s := ty)
    case k1 => intro _; omega
    case k2 =>
      intro _ h
      refine hadd ?_
      have : words = false := by
        rw [hv] at h
        cases words with
        | false => rfl
        | true => exact absurd h (by decide)
      simp [this]
    case k3 => intro _ _ h; exact hadd (by simp; omega)
    case k4 =>
      intro _ h h2 h3
      refine hskip (fun q => ?_)
      have hw : words = true := by
        rw [hv] at h
        cases words with
        | true => rfl
        | false => exact absurd rfl h
      have h4 : ¬ i = ty.length := by omega
      have h5 : ¬ bgW ty i = true := h3
      simp [hw, h4] at q
      exact h5 q
    case k5 => intro _ _ _ h; exact hadd (by have h5 : bgW ty i = true := h; simp [h5])
    all_goals first | assumption | (intros; omega)
def BFr : List Nat := [1, 2, 5, 6, 7, 35, 36, 37, 38, 39, 40, 41, 42, 43, 44]
theorem m_X4_bySigns {K : zM → Prop} {M : zM} {words : Bool} {p1 : Int} (hv : p1 = if words = true then 1 else 0) {ty : List Int} (ho : okS ty) {j : JS} (hR : okR M) (hoc : ocX M = oc) (hty : tT M 1 ty) (hj : JX M on j)
    (k : ∀ M', zSm BFr M M' → tT M' 1 (bsS on oc words ty j).1 → okS (bsS on oc words ty j).1 → JX M' on (bsS on oc words ty j).2 → K M') : zCv B zy_X4_bySigns 14 0 0 [zR 31, zI p1] M K := by
  refine e_X4_bySigns (fun n0 => b_X4_bySigns_0 ?_)
  refine m_X2_begin hty ho (fun M1 f1 g1 g2 g3 => b_X4_bySigns_7 ?_)
  refine l_X4_bySigns (oc := oc) (on := on) (words := words) (j := j) hv ho ty.length 1 0 M1 [] (by omega) (by omega) (by omega) (by simp) (fun u hu => by cases hu) (hR.same f1.2.1) (by rw [ocX_fr hR f1 (by decide), hoc]) g1 (hty.fr f1 (by decide) (by decide)) g3 g2 (hj.fr f1 (by decide) (by decide) (by decide)) (fun M' a1 a2 => ?_)
  exact k M' ((f1.mono (by simp [BFr])).tr (a1.mono (by simp [BFr, LFr]))) a2.2.2.1 a2.2.2.2.1 a2.2.2.2.2.1
end BS
def AX (M : zM) (L : List nd) (d : Int) (av : Nat → Bool) : Prop := ∀ i, i < L.length → nD (ndG L i) = d → (¬ gi M 34 i = 0 ↔ av i = true)
section CU
variable {B : zB} {K : zM → Prop} {L : List nd} {wl d : Int} {av : Nat → Bool}
theorem l_X4_chooseUnits {n0 : Nat} (hw : WT wl L) (hwl : wl ≤ 32) (hd : 1 ≤ d) : ∀ (m i : Nat) (M : zM) (U : List un), i + m = L.length → 1 ≤ i → U.length < i → TR M L → UX M U → AX M L (d - 1) av → (∀ x, x < i → nD (ndG L x) = d → gi M 34 x = 0) →
    (∀ M', zSm [34, 35, 42, 43, 44] M M' → (∀ q, q ≠ 6 → gi M' 35 q = gi M 35 q) → UX M' (U ++ lvU L av d m i) → (∀ x, x < L.length → nD (ndG L x) = d → gi M' 34 x = 0) → K M') →
    zGv B zy_X4_chooseUnits 2 0 0 n0 K 17 [some (zR 31), some (zI d), some (zI i)] [] M 0 0 := by
  intro m
  induction m with
  | zero =>
    intro i M U hi h1 hl ht hU ha hz k
    have e := ht.1
    apply b_X4_chooseUnits_17 (L := L) (wl := wl)
    case k1 =>
      intro _
      refine k M zSm.rf (fun _ _ => rfl) (by simpa [lvU] using hU) (fun x hx => hz x (by omega))
    case c3 => exact ht.same (fun a h1 h2 => gi_si_ne (by omega))
    all_goals first | assumption | (intros; omega)
  | succ m ih =>
    intro i M U hi h1 hl ht hU ha hz k
    have e := ht.1
    have h60 := ht.2.1
    have hiL : i < L.length := by omega
    have hat := ht.at hiL
    have hwt := hw.2.2.2.2 i (by omega) hiL
    have hnb := hw.2.1 i hiL
    obtain ⟨-, -, hb0, hz0, hbz⟩ := hnb
    have hpar := hw.2.2.2.2 i (by omega) hiL
    have ht' : TR (si M 34 i 0) L := ht.same (fun a h1 h2 => gi_si_ne (by omega))
    have hkeep : ∀ M1, zSm [34, 35, 42, 43, 44] M M1 → (∀ x, gi M1 34 x = gi (si M 34 i 0) 34 x) → nD (ndG L i) = d → AX M1 L (d - 1) av ∧ (∀ x, x < i + 1 → nD (ndG L x) = d → gi M1 34 x = 0) := fun M1 _ h34 hdi => by
      constructor
      · intro x hx hdx
        rw [h34 x, gi_si_eq, if_neg (fun q => by rw [q] at hdx; omega)]
        exact ha x hx hdx
      · intro x hx hdx
        rw [h34 x, gi_si_eq]
        split
        · rfl
        · exact hz x (by omega) hdx
    apply b_X4_chooseUnits_17 (L := L) (wl := wl)
    case k1 => intro _; omega
    case k2 =>
      intro _ h
      rw [show (i : Int).toNat = i from rfl, hat.2.2.2.2.1] at h
      have e1 : lvU L av d (m + 1) i = lvU L av d m (i + 1) := by
        rw [lvU, if_neg (by simp [h])]
      rw [e1] at k
      exact ih (i + 1) M U (by omega) (by omega) (by omega) ht hU ha (fun x hx hdx => by
        by_cases hxi : x = i
        · rw [hxi] at hdx; exact absurd hdx h
        · exact hz x (by omega) hdx) k
    case c3 => exact ht'
    case k3 =>
      intro _ h h2
      rw [show (i : Int).toNat = i from rfl] at h h2 ⊢
      rw [hat.2.2.2.2.1] at h
      have hpd : nD (ndG L (nP (ndG L i)).toNat) = d - 1 := by omega
      have hav : av (nP (ndG L i)).toNat = false := by
        have h3 := ha (nP (ndG L i)).toNat (by omega) hpd
        rw [gi_si_eq, if_neg (by omega)] at h2
        cases hz : av (nP (ndG L i)).toNat with
        | false => rfl
        | true => exact absurd (h3.mpr hz) h2
      have e1 : lvU L av d (m + 1) i = lvU L av d m (i + 1) := by
        rw [lvU, if_neg (by simp [hav])]
      rw [e1] at k
      have hf : zSm [34, 35, 42, 43, 44] M (si M 34 i 0) := zSm.rf.st (by simp)
      obtain ⟨a1, a2⟩ := hkeep (si M 34 i 0) hf (fun _ => rfl) h
      exact ih (i + 1) _ U (by omega) (by omega) (by omega) ht' (hU.fr (zSm.rf.st (by simp) : zSm [34] M _) (by decide) (by decide) (by decide) (by decide)) a1 a2 (fun M' b1 b2 b3 b4 => k M' (hf.tr b1) (fun q hq => by rw [b2 q hq, gi_si_ne (by decide)]) b3 b4)
    case k4 =>
      intro _ h h2
      rw [show (i : Int).toNat = i from rfl] at h h2 ⊢
      rw [hat.2.2.2.2.1] at h
      have hpd : nD (ndG L (nP (ndG L i)).toNat) = d - 1 := by omega
      have hav : av (nP (ndG L i)).toNat = true := by
        rw [gi_si_eq, if_neg (by omega)] at h2
        exact (ha (nP (ndG L i)).toNat (by omega) hpd).mp h2
      have e1 : lvU L av d (m + 1) i = (nB (ndG L i), nB (ndG L i) + nZ (ndG L i), (i : Int)) :: lvU L av d m (i + 1) := by
        rw [lvU, if_pos (by simp [hav, h])]
      rw [e1] at k
      rw [hat.2.2.1, hat.2.2.2.1]
      refine m_X2_addUnit (hU.fr (zSm.rf.st (by simp) : zSm [34] M (si M 34 i 0)) (by decide) (by decide) (by decide) (by decide)) (by omega) (fun M1 f1 g1 g2 g3 => ?_)
      have hf : zSm [34, 35, 42, 43, 44] M M1 := (zSm.rf.st (by simp) : zSm [34, 35, 42, 43, 44] M (si M 34 i 0)).tr (f1.mono (by simp))
      obtain ⟨a1, a2⟩ := hkeep M1 hf (fun x => by rw [f1.ge (by decide)]) h
      apply b_X4_chooseUnits_92
      · omega
      · refine ih (i + 1) M1 _ (by omega) (by omega) (by simp; omega) (ht'.same (fun a h1 h2 => f1.ge (by simp; omega))) g3 a1 a2 (fun M' b1 b2 b3 b4 => k M' (hf.tr b1) (fun q hq => by rw [b2 q hq, g1 q hq, gi_si_ne (by decide)]) ?_ b4)
        rw [List.append_assoc] at b3
        exact b3
    all_goals first | assumption | (intros; omega) | (intros; rw [show (i : Int).toNat = i from rfl, hat.2.2.1, hat.2.2.2.1]; omega)
theorem lvU_ok (hw : WT wl L) (hwl : wl ≤ 32) : ∀ (m i : Nat), i + m ≤ L.length → 1 ≤ i → okU (lvU L av d m i) ∧ (lvU L av d m i).length ≤ m ∧ ∀ u ∈ lvU L av d m i, ∃ x : Nat, x < L.length ∧ u.2.2 = (x : Int) ∧ nD (ndG L x) = d := by
  intro m
  induction m with
  | zero => intro i _ _; exact ⟨(fun u hu => by cases hu), Nat.le_refl _, (fun u hu => by cases hu)⟩
  | succ m ih =>
    intro i hi h1
    obtain ⟨a1, a2, a3⟩ := ih (i + 1) (by omega) (by omega)
    obtain ⟨-, -, hb0, hz0, hbz⟩ := hw.2.1 i (by omega)
    unfold lvU
    split
    · next h =>
      simp only [Bool.and_eq_true, decide_eq_true_eq] at h
      refine ⟨fun u hu => ?_, by simp; omega, fun u hu => ?_⟩
      · rcases List.mem_cons.mp hu with rfl | hu
        · dsimp only; omega
        · exact a1 u hu
      · rcases List.mem_cons.mp hu with rfl | hu
        · exact ⟨i, by omega, rfl, h.1⟩
        · exact a3 u hu
    · exact ⟨a1, by omega, a3⟩
theorem m_X4_chooseUnits {M : zM} (hw : WT wl L) (hwl : wl ≤ 32) (hd : 1 ≤ d) (ht : TR M L) (ha : (d = 1 ∧ av = fun i => decide (i = 0)) ∨ (2 ≤ d ∧ AX M L (d - 1) av))
    (k : ∀ M', zSm [34, 35, 42, 43, 44] M M' → UX M' (lvU L av d (L.length - 1) 1) → (∀ x, x < L.length → nD (ndG L x) = d → gi M' 34 x = 0) → K M') : zCv B zy_X4_chooseUnits 2 0 0 [zR 31, zI d] M K := by
  have h1 := hw.1
  refine e_X4_chooseUnits (fun n0 => b_X4_chooseUnits_0 ?_)
  have hf : zSm [34, 35, 42, 43, 44] M (si (si M 35 6 0) 34 0 1) := (zSm.rf.st (by simp)).st (by simp)
  refine l_X4_chooseUnits hw hwl hd (L.length - 1) 1 _ [] (by omega) (by omega) (by simp) (ht.same (fun a h1 h2 => hf.ge (by simp; omega))) ⟨by rw [gi_si_ne (by decide), gi_si_eq, if_pos rfl]; rfl, by simp, fun i hi => by simp at hi⟩ ?_ (fun x hx hdx => ?_) (fun M' a1 a2 a3 a4 => k M' (hf.tr a1) (by simpa using a3) a4)
  · intro i hi hdi
    rw [gi_si_eq]
    rcases ha with ⟨h2, h3⟩ | ⟨h2, h3⟩
    · rw [h3]
      by_cases h0 : i = 0
      · rw [if_pos h0]; simp [h0]
      · have := (hw.2.2.2.2 i (by omega) hi).2.2.2
        omega
    · have h0 : ¬ i = 0 := fun q => by
        rw [q, hw.2.2.1] at hdi
        omega
      rw [if_neg h0, gi_si_ne (by decide)]
      exact h3 i hi hdi
  · have h0 : x = 0 := by omega
    rw [h0, hw.2.2.1] at hdx
    omega
theorem l_X4_keepUnits {n0 : Nat} {U : List un} (hU60 : U.length ≤ 60) (hL60 : L.length ≤ 60) (hn : ∀ u ∈ U, ∃ x : Nat, x < L.length ∧ u.2.2 = (x : Int)) : ∀ (m i : Nat) (M : zM), i + m = U.length → UX M U → (∀ x, x < L.length → nD (ndG L x) = d → (¬ gi M 34 x = 0 ↔ (U.take i).any (fun u => decide (u.2.2 = (x : Int))) = true)) →
    (∀ M', zSm [34] M M' → AX M' L d (fun x => U.any (fun u => decide (u.2.2 = (x : Int)))) → K M') →
    zGv B zy_X4_keepUnits 1 0 0 n0 K 2 [some (zR 31), some (zI i)] [] M 0 0 := by
  intro m
  induction m with
  | zero =>
    intro i M hi hU ha k
    have e := hU.1
    apply b_X4_keepUnits_2
    case k1 => intro _; exact k M zSm.rf (fun x hx hd => by rw [List.take_of_length_le (by omega)] at ha; exact ha x hx hd)
    all_goals (intros; omega)
  | succ m ih =>
    intro i M hi hU ha k
    have e := hU.1
    have hiU : i < U.length := by omega
    have hg := hU.get hiU
    obtain ⟨x0, hx0, hx1⟩ := hn U[i] (List.getElem_mem hiU)
    have e44 : gi M 44 i = (x0 : Int) := by
      rw [← hx1, hg]
      rfl
    apply b_X4_keepUnits_2
    case k1 => intro _; omega
    case k2 =>
      intro _
      rw [show (i : Int).toNat = i from rfl, e44, show (x0 : Int).toNat = x0 from rfl]
      have hf : zSm [34] M (si M 34 x0 1) := zSm.rf.st (by simp)
      refine ih (i + 1) _ (by omega) (hU.fr hf (by decide) (by decide) (by decide) (by decide)) (fun x hx hd => ?_) (fun M' a1 a2 => k M' (hf.tr a1) a2)
      rw [gi_si_eq, List.take_succ, List.getElem?_eq_getElem hiU, List.any_append]
      simp only [Option.toList_some, List.any_cons, List.any_nil, Bool.or_false, Bool.or_eq_true, decide_eq_true_eq]
      rw [hx1]
      by_cases hxx : x = x0
      · rw [if_pos hxx]
        simp [hxx]
      · rw [if_neg hxx, ha x hx hd]
        constructor
        · intro h; exact Or.inl h
        · rintro (h | h)
          · exact h
          · omega
    case c2 => intro _; rw [show (i : Int).toNat = i from rfl, e44]; omega
    all_goals (intros; omega)
theorem m_X4_keepUnits {M : zM} {U : List un} (hL60 : L.length ≤ 60) (hU : UX M U) (hn : ∀ u ∈ U, ∃ x : Nat, x < L.length ∧ u.2.2 = (x : Int)) (ha : ∀ x, x < L.length → nD (ndG L x) = d → gi M 34 x = 0)
    (k : ∀ M', zSm [34] M M' → AX M' L d (fun x => U.any (fun u => decide (u.2.2 = (x : Int)))) → K M') : zCv B zy_X4_keepUnits 1 0 0 [zR 31] M K :=
  e_X4_keepUnits (fun _ => b_X4_keepUnits_0 (l_X4_keepUnits hU.2.1 hL60 hn U.length 0 M (by omega) hU (fun x hx hd => by rw [ha x hx hd]; simp) k))
end CU
