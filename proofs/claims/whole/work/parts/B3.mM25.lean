/-! ===== units: the model ===== -/
def inU (u : un) (x : Nat) : Bool := decide (u.1 ≤ (x : Int)) && decide ((x : Int) < u.2.1)
def bM (M : zM) (b : List Int) : Prop := gi M 45 51 = (b.length : Int) ∧ zA M 78 b
/-- the units: their bits, their nodes (told by nu) -/
def UM (M : zM) (n : Nat) (nu : Int → Int) (U : List un) : Prop := gi M 45 55 = (U.length : Int) ∧ U.length ≤ 60 ∧ ∀ (i : Nat) (u : un), U[i]? = some u → BT (gi M 79 i) n (inU u) ∧ gi M 80 i = nu u.2.2
theorem UM.same {M M' : zM} {n : Nat} {nu : Int → Int} {U : List un} (h : UM M n nu U) (e0 : gi M' 45 55 = gi M 45 55) (e1 : gi M' 79 = gi M 79) (e2 : gi M' 80 = gi M 80) : UM M' n nu U := by
  unfold UM at *
  rw [e0, e1, e2]
  exact h
theorem bM.same {M M' : zM} {b : List Int} (h : bM M b) (e0 : gi M' 45 51 = gi M 45 51) (e1 : gi M' 78 = gi M 78) : bM M' b := ⟨e0.trans h.1, h.2.same e1⟩
section MN25
variable {B : zB} {K : Int → zM → Prop} {Kv : zM → Prop} {M : zM} {n : Nat} {nu : Int → Int} {U : List un}
theorem p_X9_run {p1 p2 : Int} (h0 : 0 ≤ p1) (h1 : 0 ≤ p2) (h2 : p1 + p2 ≤ 32) (k : ∀ x, BT x 32 (fun q => decide (p1 ≤ (q : Int)) && decide ((q : Int) < p1 + p2)) → K x M) : zCi B zy_X9_run 1 0 0 [zI p1, zI p2] M K := by
  have L : ∀ (d : Nat) (i v : Int) (n0 : Nat), i + d = p1 + p2 → p1 ≤ i → BT v 32 (fun q => decide (p1 ≤ (q : Int)) && decide ((q : Int) < i)) → zGi B zy_X9_run 1 0 0 n0 K 4 [some (zI p1), some (zI p2), some (zI v), some (zI i)] [] M 0 0 := by
    intro d
    induction d with
    | zero =>
      intro i v n0 hi h hb
      apply b_X9_run_4
      case k1 =>
        intro _
        rw [(by omega : i = p1 + p2)] at hb
        exact k v hb
      all_goals (intros; omega)
    | succ d ih =>
      intro i v n0 hi h hb
      apply b_X9_run_4
      case k1 => intro q; omega
      case k2 =>
        intro _
        refine ih (i + 1) _ n0 (by omega) (by omega) (fun q hq => ?_)
        have e := tb_shl (k := i.toNat) (i := q) (by omega) hq
        rw [(by omega : ((i.toNat : Nat) : Int) = i)] at e
        rw [tb_or, hb q hq, e, Bool.eq_iff_iff]
        simp only [Bool.or_eq_true, Bool.and_eq_true, decide_eq_true_eq]
        omega
      all_goals (intros; omega)
  refine e_X9_run (fun n0 => ?_)
  apply b_X9_run_0
  · refine L p2.toNat p1 0 n0 (by omega) (Int.le_refl _) (fun q hq => ?_)
    rw [tb_zero]
    symm
    rw [Bool.and_eq_false_iff]
    by_cases z : p1 ≤ (q : Int)
    · right; simp only [decide_eq_false_iff_not]; omega
    · left; simp only [decide_eq_false_iff_not]; exact z
theorem m_X9_addUnit {p1 p2 : Int} {u : un} (hU : UM M n nu U) (hl : U.length < 60) (hb : BT p1 n (inU u)) (hp : p2 = nu u.2.2) (k : ∀ M', zSm [45, 79, 80] M M' → (∀ q, q ≠ 55 → gi M' 45 q = gi M 45 q) → UM M' n nu (U ++ [u]) → Kv M') : zCv B zy_X9_addUnit 1 0 0 [zR 45, zI p1, zI p2] M Kv := by
  obtain ⟨u1, u2, u3⟩ := hU
  refine e_X9_addUnit (fun n0 => ?_)
  apply b_X9_addUnit_0
  case c1 => omega
  case c2 => omega
  case k1 =>
    rw [u1, show ((U.length : Int)).toNat = U.length from rfl]
    refine k _ (((zSm.rf.st (by decide)).st (by decide)).st (by decide)) (fun q hq => by simp [gi_si, hq]) ⟨?_, ?_, fun i v hi => ?_⟩
    · rw [gi_si_eq, if_pos rfl, List.length_append]; rfl
    · rw [List.length_append, List.length_singleton]; omega
    · by_cases z : i = U.length
      · rw [z, List.getElem?_append_right (Nat.le_refl _), Nat.sub_self] at hi
        have e : v = u := (Option.some.inj hi).symm
        rw [e, z]
        have e1 : gi (si (si (si M 79 U.length p1) 80 U.length p2) 45 55 ((U.length : Int) + 1)) 79 U.length = p1 := by simp [gi_si]
        have e2 : gi (si (si (si M 79 U.length p1) 80 U.length p2) 45 55 ((U.length : Int) + 1)) 80 U.length = p2 := by simp [gi_si]
        rw [e1, e2]
        exact ⟨hb, hp⟩
      · have hi2 : i < U.length := by
          have := (List.getElem?_eq_some_iff.mp hi).1
          rw [List.length_append, List.length_singleton] at this
          omega
        rw [List.getElem?_append_left hi2] at hi
        have e1 : gi (si (si (si M 79 U.length p1) 80 U.length p2) 45 55 ((U.length : Int) + 1)) 79 i = gi M 79 i := by simp [gi_si, z]
        have e2 : gi (si (si (si M 79 U.length p1) 80 U.length p2) 45 55 ((U.length : Int) + 1)) 80 i = gi M 80 i := by simp [gi_si, z]
        rw [e1, e2]
        exact u3 i v hi
theorem td_succ {f i : Nat} (h : f ≤ i) (hi : i < U.length) : (U.take (i + 1)).drop f = (U.take i).drop f ++ [U[i]] := by
  rw [List.take_succ, List.getElem?_eq_getElem hi, List.drop_append_of_le_length (by rw [List.length_take]; omega)]
  rfl
theorem td_nil {f : Nat} : (U.take f).drop f = [] := by
  apply List.drop_of_length_le
  rw [List.length_take]
  omega
theorem m_X9_unitBits {f t : Nat} (hU : UM M n nu U) (hf : f ≤ t) (ht : t ≤ U.length) (k : ∀ x, BT x n (cvL ((U.take t).drop f)) → K x M) : zCi B zy_X9_unitBits 1 0 0 [zR 45, zI (f : Int), zI (t : Int)] M K := by
  obtain ⟨u1, u2, u3⟩ := hU
  have L : ∀ (d i n0 : Nat) (v : Int), i + d = t → f ≤ i → BT v n (cvL ((U.take i).drop f)) → zGi B zy_X9_unitBits 1 0 0 n0 K 5 [some (zR 45), some (zI (f : Int)), some (zI (t : Int)), some (zI v), some (zI (i : Int))] [] M 0 0 := by
    intro d
    induction d with
    | zero =>
      intro i n0 v hi hfi hb
      apply b_X9_unitBits_5
      case k1 =>
        intro _
        rw [(by omega : i = t)] at hb
        exact k v hb
      all_goals (intros; omega)
    | succ d ih =>
      intro i n0 v hi hfi hb
      have ei : ((i : Int)).toNat = i := rfl
      apply b_X9_unitBits_5
      case k1 => intro q; omega
      case k2 =>
        intro _
        rw [ei]
        refine ih (i + 1) n0 _ (by omega) (by omega) (fun q hq => ?_)
        have h3 := (u3 i _ (List.getElem?_eq_getElem (show i < U.length by omega))).1
        rw [tb_or, hb q hq, h3 q hq, td_succ hfi (by omega), cvL_app]
        simp [cvL, inU]
      all_goals (intros; omega)
  refine e_X9_unitBits (fun n0 => ?_)
  apply b_X9_unitBits_0
  refine L (t - f) f n0 0 (by omega) (Nat.le_refl _) (fun q hq => ?_)
  rw [tb_zero, td_nil]
  rfl
theorem l_X9_drop_2 {n0 f t : Nat} (hU : UM M n nu U) (ht : t ≤ U.length) (hnu : ∀ u ∈ U, nu u.2.2 < 61)
    (kn : ∀ M', zSm [81] M M' → (∀ x, ¬ gi M' 81 x = 0 ↔ (¬ gi M 81 x = 0 ∨ ∃ u ∈ (U.take t).drop f, nu u.2.2 = (x : Int))) → zGv B zy_X9_drop 1 0 0 n0 Kv 36 [some (zR 45), some (zI (f : Int)), some (zI (t : Int)), some (zI (t : Int))] [] M' 0 0) :
    ∀ (d i : Nat) (M1 : zM), i + d = t → f ≤ i → zSm [81] M M1 → (∀ x, ¬ gi M1 81 x = 0 ↔ (¬ gi M 81 x = 0 ∨ ∃ u ∈ (U.take i).drop f, nu u.2.2 = (x : Int))) → zGv B zy_X9_drop 1 0 0 n0 Kv 2 [some (zR 45), some (zI (f : Int)), some (zI (t : Int)), some (zI (i : Int))] [] M1 0 0 := by
  obtain ⟨u1, u2, u3⟩ := hU
  intro d
  induction d with
  | zero =>
    intro i M1 hi hfi f1 h
    apply b_X9_drop_2
    case k1 =>
      intro _
      rw [(by omega : i = t)] at h
      exact kn M1 f1 h
    all_goals (intros; omega)
  | succ d ih =>
    intro i M1 hi hfi f1 h
    have ei : ((i : Int)).toNat = i := rfl
    have hil : i < U.length := by omega
    have h3 := (u3 i _ (List.getElem?_eq_getElem hil)).2
    have hn61 := hnu _ (List.getElem_mem hil)
    have e80 : gi M1 80 i = nu U[i].2.2 := by rw [f1.ge (by decide)]; exact h3
    have hmem : ∀ x : Nat, (∃ u ∈ (U.take (i + 1)).drop f, nu u.2.2 = (x : Int)) ↔ ((∃ u ∈ (U.take i).drop f, nu u.2.2 = (x : Int)) ∨ nu U[i].2.2 = (x : Int)) := fun x => by
      rw [td_succ hfi hil]
      constructor
      · rintro ⟨u, hu, hx⟩
        rcases List.mem_append.mp hu with q | q
        · exact Or.inl ⟨u, q, hx⟩
        · rw [List.mem_singleton] at q
          rw [q] at hx
          exact Or.inr hx
      · rintro (⟨u, hu, hx⟩ | hx)
        · exact ⟨u, List.mem_append_left _ hu, hx⟩
        · exact ⟨_, List.mem_append_right _ List.mem_cons_self, hx⟩
    apply b_X9_drop_2
    case k1 => intro q; omega
    case k2 =>
      intro _ q
      rw [ei, e80] at q
      refine ih (i + 1) M1 (by omega) (by omega) f1 (fun x => ?_)
      rw [h x, hmem]
      constructor
      · rintro (z | z)
        · exact Or.inl z
        · exact Or.inr (Or.inl z)
      · rintro (z | z | z)
        · exact Or.inl z
        · exact Or.inr z
        · omega
    case k3 =>
      intro _ q
      rw [ei, e80] at q ⊢
      refine ih (i + 1) _ (by omega) (by omega) (f1.st (by decide)) (fun x => ?_)
      rw [gi_si_eq, hmem]
      by_cases z : x = (nu U[i].2.2).toNat
      · rw [if_pos z]
        exact ⟨fun _ => Or.inr (Or.inr (by omega)), fun _ => by decide⟩
      · rw [if_neg z, h x]
        constructor
        · rintro (y | y)
          · exact Or.inl y
          · exact Or.inr (Or.inl y)
        · rintro (y | y | y)
          · exact Or.inl y
          · exact Or.inr y
          · omega
    case c2 => intros; omega
    case c4 => intros; omega
    case c1 => intros; omega
    case c3 => intro _ q; rw [ei, e80] at q ⊢; omega
theorem m_X9_drop {f t : Nat} (hU : UM M n nu U) (hf : f ≤ t) (ht : t ≤ U.length) (hnu : ∀ u ∈ U, nu u.2.2 < 61)
    (k : ∀ M', zSm [45, 79, 80, 81] M M' → (∀ q, q ≠ 55 → gi M' 45 q = gi M 45 q) → UM M' n nu (U.take f ++ U.drop t) → (∀ x, ¬ gi M' 81 x = 0 ↔ (¬ gi M 81 x = 0 ∨ ∃ u ∈ (U.take t).drop f, nu u.2.2 = (x : Int))) → Kv M') : zCv B zy_X9_drop 1 0 0 [zR 45, zI (f : Int), zI (t : Int)] M Kv := by
  obtain ⟨u1, u2, u3⟩ := id hU
  refine e_X9_drop (fun n0 => ?_)
  apply b_X9_drop_0
  refine l_X9_drop_2 hU ht hnu (fun M1 f1 hg => ?_) (t - f) f M (by omega) (Nat.le_refl _) zSm.rf (fun x => ?_)
  · have e55 : gi M1 45 = gi M 45 := f1.ge (by decide)
    have L : ∀ (d i : Nat) (M2 : zM), i + d = U.length → t ≤ i → zSm [79, 80] M1 M2 → (∀ y, gi M2 79 y = if f ≤ y ∧ y < f + (i - t) then gi M1 79 (y + (t - f)) else gi M1 79 y) → (∀ y, gi M2 80 y = if f ≤ y ∧ y < f + (i - t) then gi M1 80 (y + (t - f)) else gi M1 80 y) → zGv B zy_X9_drop 1 0 0 n0 Kv 36 [some (zR 45), some (zI (f : Int)), some (zI (t : Int)), some (zI (i : Int))] [] M2 0 0 := by
      intro d
      induction d with
      | zero =>
        intro i M2 hi hti f2 h1 h2
        have e2 : gi M2 45 = gi M 45 := (f2.ge (by decide)).trans e55
        apply b_X9_drop_36
        case k1 =>
          intro _
          rw [e2, u1]
          have ff : zSm [45, 79, 80, 81] M (si M2 45 55 ((U.length : Int) - ((t : Int) - (f : Int)))) := ((f1.mono (by decide)).tr (f2.mono (by decide))).st (by decide)
          refine k _ ff (fun q hq => by rw [gi_si_eq, if_neg hq, e2]) ⟨?_, ?_, fun y v hy => ?_⟩ (fun x => ?_)
          · rw [gi_si_eq, if_pos rfl, List.length_append, List.length_take, List.length_drop]; omega
          · rw [List.length_append, List.length_take, List.length_drop]; omega
          · rw [gi_si_ne (by decide), gi_si_ne (by decide), h1, h2]
            have hly : y < f + (U.length - t) := by
              have := (List.getElem?_eq_some_iff.mp hy).1
              rw [List.length_append, List.length_take, List.length_drop] at this
              omega
            by_cases z : y < f
            · rw [if_neg (by omega), if_neg (by omega), f1.ge (by decide), f1.ge (by decide)]
              rw [List.getElem?_append_left (by rw [List.length_take]; omega), List.getElem?_take, if_pos z] at hy
              exact u3 y v hy
            · rw [if_pos (by omega), if_pos (by omega), f1.ge (by decide), f1.ge (by decide)]
              rw [List.getElem?_append_right (by rw [List.length_take]; omega), List.length_take, List.getElem?_drop, show min f U.length = f from by omega, show t + (y - f) = y + (t - f) from by omega] at hy
              exact u3 _ v hy
          · rw [gi_si_ne (by decide), f2.ge (by decide)]
            exact hg x
        all_goals (intro q; rw [e2, u1] at *; omega)
      | succ d ih =>
        intro i M2 hi hti f2 h1 h2
        have e2 : gi M2 45 = gi M 45 := (f2.ge (by decide)).trans e55
        have ei : ((i : Int)).toNat = i := rfl
        have ej : ((f : Int) + (i : Int) - (t : Int)).toNat = f + (i - t) := by omega
        apply b_X9_drop_36
        case k1 => intro q; rw [e2, u1] at q; omega
        case k2 =>
          intro _
          rw [ei, ej, h1 i, h2 i, if_neg (by omega), if_neg (by omega)]
          refine ih (i + 1) _ (by omega) (by omega) ((f2.st (by decide)).st (by decide)) (fun y => ?_) (fun y => ?_)
          · rw [gi_si_ne (by decide), gi_si_eq]
            by_cases z : y = f + (i - t)
            · rw [if_pos z, if_pos (by omega), z, show f + (i - t) + (t - f) = i from by omega]
            · rw [if_neg z, h1]
              by_cases w : f ≤ y ∧ y < f + (i - t)
              · rw [if_pos w, if_pos (by omega)]
              · rw [if_neg w, if_neg (by omega)]
          · rw [gi_si_eq]
            by_cases z : y = f + (i - t)
            · rw [if_pos z, if_pos (by omega), z, show f + (i - t) + (t - f) = i from by omega]
            · rw [if_neg z, gi_si_ne (by decide), h2]
              by_cases w : f ≤ y ∧ y < f + (i - t)
              · rw [if_pos w, if_pos (by omega)]
              · rw [if_neg w, if_neg (by omega)]
        all_goals (intro q; rw [e2, u1] at q; omega)
    exact L (U.length - t) t M1 (by omega) (Nat.le_refl _) zSm.rf (fun y => by rw [if_neg (by omega)]) (fun y => by rw [if_neg (by omega)])
  · rw [td_nil]
    exact ⟨fun z => Or.inl z, fun z => z.elim id (fun ⟨u, hu, _⟩ => by cases hu)⟩
end MN25
section MN25b
variable {B : zB} {K : Int → zM → Prop} {M : zM} {ty wr : List Int} {sk : List (List st3 × Int)} {w u : List st3} {G : Option GC} {j : JS} {on rd : Int} {b : List Int} {th : Nat → Bool}
/-- what asking for bits changes -/
def AF (M M' : zM) : Prop := zSm [45, 46, 53, 75, 76, 77] M M' ∧ ∀ q, scrQ q → q ≠ 49 → gi M' 45 q = gi M 45 q
theorem m_X9_askBits {bits : Int} (h : MS M ty wr sk w u G j on rd) (hb : bM M b) (ho : okS b) (hth : BT bits b.length th) (hen : j.2.2.2.2 = 0) (kk : ∀ M', AF M M' → MS M' (if (askS on (ocA w u) j (mskT b th)).1 = 1 then mskT b th else ty) wr sk w u G (askS on (ocA w u) j (mskT b th)).2 on rd → K (if (askS on (ocA w u) j (mskT b th)).1 = 1 then 1 else 0) M') : zCi B zy_X9_askBits 5 0 0 [zR 45, zI bits] M K := by
  have h32 := ho.1
  have L : ∀ (d i n0 : Nat) (M1 : zM), i + d = b.length → zSm [45, 77] M M1 → (∀ q, q ≠ 49 → gi M1 45 q = gi M 45 q) → akM M1 (((List.range i).filter th).map (fun i => b.getD i 0)) → zGi B zy_X9_askBits 5 0 0 n0 K 7 [some (zR 45), some (zI bits), some (zI (i : Int))] [] M1 0 0 := by
    intro d
    induction d with
    | zero =>
      intro i n0 M1 hi f e ha
      have e51 : gi M1 45 51 = (b.length : Int) := (e 51 (by decide)).trans hb.1
      rw [(by omega : i = b.length)] at ha
      have hM1 := h.scr f (by decide) (fun q hq => e q (fun z => hq (by unfold scrQ; omega)))
      apply b_X9_askBits_7
      case k1 =>
        intro _
        refine m_X9_ask hM1 ha (mskT_ok ho) hen (fun M2 f2 h2 => ?_)
        apply b_X9_askBits_59
        case c1 => split <;> simp
        case k1 => exact kk M2 ⟨(f.mono (by decide)).tr (f2.1.mono (by decide)), fun q hq q49 => (f2.2 q hq).trans (e q q49)⟩ h2
      all_goals (intro q; rw [e51] at q; omega)
    | succ d ih =>
      intro i n0 M1 hi f e ha
      have e51 : gi M1 45 51 = (b.length : Int) := (e 51 (by decide)).trans hb.1
      have ei : ((i : Int)).toNat = i := rfl
      have hln := mskT_len (b := b) (th := th) i
      have hbit : zand (zshr bits (i : Int)) 1 = 1 ↔ th i = true := by rw [tb_shr (by omega), hth i (by omega)]
      have hmt := mskT_take (b := b) (th := th) i (by omega)
      apply b_X9_askBits_7
      case k1 => intro q; rw [e51] at q; omega
      case k2 =>
        intro _ q
        refine ih (i + 1) n0 M1 (by omega) f e ?_
        rw [hmt, if_neg (fun z => q (hbit.mpr z)), List.append_nil]
        exact ha
      case k3 =>
        intro _ q
        have hthi := hbit.mp q
        rw [if_pos hthi] at hmt
        generalize ((List.range i).filter th).map (fun i => b.getD i 0) = a at *
        rw [ei, ha.1, show ((a.length : Int)).toNat = a.length from rfl, f.ge (by decide : (78 : Nat) ∉ [45, 77]), hb.2.get (by omega)]
        refine ih (i + 1) n0 _ (by omega) ((f.st (by decide)).st (by decide)) (fun q hq => by rw [gi_si_eq, if_neg hq, gi_si_ne (by decide)]; exact e q hq) ?_
        rw [hmt]
        refine ⟨by rw [gi_si_eq, if_pos rfl, List.length_append]; rfl, ?_⟩
        exact (ha.2.app1 (x := b.getD i 0)).same (gi_si_ne (by decide))
      case c3 => intro _ _; rw [ha.1]; omega
      case c4 => intro _ _; rw [ha.1]; omega
      all_goals (intros; omega)
  refine e_X9_askBits (fun n0 => ?_)
  apply b_X9_askBits_0
  refine L b.length 0 n0 _ (by omega) (zSm.rf.st (by decide)) (fun q hq => by rw [gi_si_eq, if_neg hq]) ⟨by rw [gi_si_eq, if_pos rfl]; rfl, zA.nil⟩
end MN25b
