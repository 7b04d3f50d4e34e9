/-! ===== a round of lessening: the model ===== -/
/-- nodes that are told are told once -/
def DS (nu : Int → Int) (U : List un) : Prop := ∀ (i k : Nat) (v w : un), U[i]? = some v → U[k]? = some w → 0 ≤ nu v.2.2 → nu v.2.2 = nu w.2.2 → i = k
/-- the nodes that are gone: those that were, and those of the units that were dropped -/
def GNY (M : zM) (nu : Int → Int) (gn0 : Nat → Prop) (U0 U : List un) : Prop := ∀ x : Nat, (¬ gi M 81 x = 0) ↔ (gn0 x ∨ ((∃ v ∈ U0, nu v.2.2 = (x : Int)) ∧ ¬ ∃ v ∈ U, nu v.2.2 = (x : Int)))
theorem tD_get {U : List un} {f t : Nat} (hf : f ≤ t) (ht : t ≤ U.length) (i : Nat) : (U.take f ++ U.drop t)[i]? = if i < f then U[i]? else U[i + (t - f)]? := by
  by_cases z : i < f
  · rw [if_pos z, List.getElem?_append_left (by rw [List.length_take]; omega), List.getElem?_take, if_pos z]
  · rw [if_neg z, List.getElem?_append_right (by rw [List.length_take]; omega), List.length_take, List.getElem?_drop, show min f U.length = f from by omega, show t + (i - f) = i + (t - f) from by omega]
theorem DS.drop {nu : Int → Int} {U : List un} {f t : Nat} (h : DS nu U) (hf : f ≤ t) (ht : t ≤ U.length) : DS nu (U.take f ++ U.drop t) := by
  intro i k v w hi hk h0 he
  rw [tD_get hf ht] at hi hk
  by_cases zi : i < f
  · rw [if_pos zi] at hi
    by_cases zk : k < f
    · rw [if_pos zk] at hk
      exact h i k v w hi hk h0 he
    · rw [if_neg zk] at hk
      have := h _ _ v w hi hk h0 he
      omega
  · rw [if_neg zi] at hi
    by_cases zk : k < f
    · rw [if_pos zk] at hk
      have := h _ _ v w hi hk h0 he
      omega
    · rw [if_neg zk] at hk
      have := h _ _ v w hi hk h0 he
      omega
theorem mem_tD {U : List un} {f t : Nat} (hf : f ≤ t) (ht : t ≤ U.length) (v : un) : v ∈ U.take f ++ U.drop t ↔ ∃ i, (i < f ∨ t ≤ i) ∧ U[i]? = some v := by
  rw [List.mem_iff_getElem?]
  constructor
  · rintro ⟨i, hi⟩
    rw [tD_get hf ht] at hi
    by_cases z : i < f
    · rw [if_pos z] at hi; exact ⟨i, Or.inl z, hi⟩
    · rw [if_neg z] at hi; exact ⟨_, Or.inr (by omega), hi⟩
  · rintro ⟨i, hi | hi, hv⟩
    · exact ⟨i, by rw [tD_get hf ht, if_pos hi]; exact hv⟩
    · exact ⟨i - (t - f), by rw [tD_get hf ht, if_neg (by omega), show i - (t - f) + (t - f) = i from by omega]; exact hv⟩
theorem mem_td {U : List un} {f t : Nat} (v : un) : v ∈ (U.take t).drop f ↔ ∃ i, (f ≤ i ∧ i < t) ∧ U[i]? = some v := by
  rw [List.mem_iff_getElem?]
  constructor
  · rintro ⟨i, hi⟩
    rw [List.getElem?_drop, List.getElem?_take] at hi
    by_cases z : f + i < t
    · rw [if_pos z] at hi; exact ⟨f + i, ⟨by omega, z⟩, hi⟩
    · rw [if_neg z] at hi; cases hi
  · rintro ⟨i, hi, hv⟩
    exact ⟨i - f, by rw [List.getElem?_drop, List.getElem?_take, show f + (i - f) = i from by omega, if_pos hi.2]; exact hv⟩
theorem GNY.drop {M M' : zM} {nu : Int → Int} {gn0 : Nat → Prop} {U0 U : List un} {f t : Nat} (h : GNY M nu gn0 U0 U) (hs : ∀ v ∈ U, v ∈ U0) (hd : DS nu U) (hf : f ≤ t) (ht : t ≤ U.length) (hx : ∀ x, ¬ gi M' 81 x = 0 ↔ (¬ gi M 81 x = 0 ∨ ∃ v ∈ (U.take t).drop f, nu v.2.2 = (x : Int))) : GNY M' nu gn0 U0 (U.take f ++ U.drop t) := by
  intro x
  rw [hx, h x]
  have d1 : (∃ v ∈ (U.take t).drop f, nu v.2.2 = (x : Int)) → ∃ v ∈ U0, nu v.2.2 = (x : Int) := by
    rintro ⟨v, hv, e⟩
    obtain ⟨i, -, hi⟩ := (mem_td v).mp hv
    exact ⟨v, hs v (List.mem_of_getElem? hi), e⟩
  have d2 : (∃ v ∈ (U.take t).drop f, nu v.2.2 = (x : Int)) → ¬ ∃ v ∈ U.take f ++ U.drop t, nu v.2.2 = (x : Int) := by
    rintro ⟨v, hv, e⟩ ⟨w, hw, e2⟩
    obtain ⟨i, hi, hi2⟩ := (mem_td v).mp hv
    obtain ⟨k, hk, hk2⟩ := (mem_tD hf ht w).mp hw
    have := hd i k v w hi2 hk2 (by omega) (by omega)
    omega
  have d3 : (∃ v ∈ U, nu v.2.2 = (x : Int)) ↔ ((∃ v ∈ U.take f ++ U.drop t, nu v.2.2 = (x : Int)) ∨ ∃ v ∈ (U.take t).drop f, nu v.2.2 = (x : Int)) := by
    constructor
    · rintro ⟨v, hv, e⟩
      obtain ⟨i, hi⟩ := List.mem_iff_getElem?.mp hv
      by_cases z : f ≤ i ∧ i < t
      · exact Or.inr ⟨v, (mem_td v).mpr ⟨i, z, hi⟩, e⟩
      · exact Or.inl ⟨v, (mem_tD hf ht v).mpr ⟨i, by omega, hi⟩, e⟩
    · rintro (⟨v, hv, e⟩ | ⟨v, hv, e⟩)
      · obtain ⟨i, -, hi⟩ := (mem_tD hf ht v).mp hv
        exact ⟨v, List.mem_of_getElem? hi, e⟩
      · obtain ⟨i, -, hi⟩ := (mem_td v).mp hv
        exact ⟨v, List.mem_of_getElem? hi, e⟩
  constructor
  · rintro ((q | ⟨q1, q2⟩) | q)
    · exact Or.inl q
    · exact Or.inr ⟨q1, fun y => q2 (d3.mpr (Or.inl y))⟩
    · exact Or.inr ⟨d1 q, d2 q⟩
  · rintro (q | ⟨q1, q2⟩)
    · exact Or.inl (Or.inl q)
    · by_cases z : ∃ v ∈ (U.take t).drop f, nu v.2.2 = (x : Int)
      · exact Or.inr z
      · exact Or.inl (Or.inr ⟨q1, fun y => (d3.mp y).elim q2 z⟩)
theorem thS_t {U : List un} {th : Nat → Bool} {f e : Int} (hf : 0 ≤ f) (hfe : f ≤ e) (x : Nat) : thS U th f e true x = (th x && !(cvL (U.take f.toNat ++ U.drop e.toNat) x)) := by
  unfold thS
  have h1 : (fun u => inP f e u != true) = (fun u => inP f e u == false) := by
    funext v
    cases inP f e v <;> rfl
  have h2 := kpI_out U f.toNat e.toNat (by omega) 0
  rw [show ((f.toNat : Nat) : Int) = f from by omega, show ((e.toNat : Nat) : Int) = e from by omega] at h2
  rw [h1, h2]
  rfl
theorem thS_f {U : List un} {th : Nat → Bool} {f e : Int} (hf : 0 ≤ f) (hfe : f ≤ e) (x : Nat) : thS U th f e false x = (th x && !(cvL ((U.take e.toNat).drop f.toNat) x)) := by
  unfold thS
  have h1 : (fun u => inP f e u != false) = (fun u => inP f e u == true) := by
    funext v
    cases inP f e v <;> rfl
  have h2 := kpI_in U f.toNat e.toNat 0
  rw [show ((f.toNat : Nat) : Int) = f from by omega, show ((e.toNat : Nat) : Int) = e from by omega] at h2
  rw [h1, h2]
  rfl
/-- what lessening changes -/
def LFm (M M' : zM) : Prop := zSm [45, 46, 53, 75, 76, 77, 79, 80, 81] M M' ∧ ∀ q, (q = 25 ∨ q = 27 ∨ q = 51 ∨ q = 63) → gi M' 45 q = gi M 45 q
theorem LFm.rf {M : zM} : LFm M M := ⟨zSm.rf, fun _ _ => rfl⟩
theorem LFm.tr {M M' M2 : zM} (h : LFm M M') (h' : LFm M' M2) : LFm M M2 := ⟨h.1.tr h'.1, fun q hq => (h'.2 q hq).trans (h.2 q hq)⟩
theorem AF.lfm {M M' : zM} (h : AF M M') : LFm M M' := ⟨h.1.mono (by decide), fun q hq => h.2 q (by unfold scrQ; omega) (by omega)⟩
section MN26
variable {B : zB} {n0 : Nat} {K : Int → zM → Prop} {Kv : zM → Prop} {M : zM} {wr : List Int} {sk : List (List st3 × Int)} {w u : List st3} {G : Option GC} {on rd : Int} {b : List Int} {nu : Int → Int} {gn0 : Nat → Prop} {U0 : List un} {z : LSt} {n : Int}
def LY (M : zM) (wr : List Int) (sk : List (List st3 × Int)) (w u : List st3) (G : Option GC) (on rd : Int) (b : List Int) (nu : Int → Int) (gn0 : Nat → Prop) (U0 : List un) (z : LSt) : Prop :=
  MS M z.2.2.1 wr sk w u G z.2.2.2 on rd ∧ bM M b ∧ UM M b.length nu z.1 ∧ BT (gi M 45 52) b.length z.2.1 ∧ GNY M nu gn0 U0 z.1 ∧ (∀ v ∈ z.1, v ∈ U0) ∧ DS nu z.1
/-- a part has been taken -/
theorem LY.drop {M : zM} {f t : Nat} {th : Nat → Bool} {ty : List Int} {j : JS} (hU0 : ∀ v ∈ U0, nu v.2.2 < 61) (h : LY M wr sk w u G on rd b nu gn0 U0 (z.1, th, ty, j)) (hf : f ≤ t) (ht : t ≤ z.1.length)
    (k : ∀ M', LFm M M' → LY M' wr sk w u G on rd b nu gn0 U0 (z.1.take f ++ z.1.drop t, th, ty, j) → Kv M') : zCv B zy_X9_drop 1 0 0 [zR 45, zI (f : Int), zI (t : Int)] M Kv := by
  obtain ⟨h1, h2, h3, h4, h5, h6, h7⟩ := h
  dsimp only at h1 h3 h4 h5 h6 h7
  refine m_X9_drop h3 hf ht (fun v hv => hU0 v (h6 v hv)) (fun M1 f1 e1 g1 g2 => ?_)
  refine k M1 ⟨f1.mono (by decide), fun q hq => e1 q (by omega)⟩ ⟨h1.scr f1 (by decide) (fun q hq => e1 q (fun y => hq (by unfold scrQ; omega))), h2.same (e1 51 (by decide)) (f1.ge (by decide)), g1, ?_, h5.drop h6 h7 hf ht g2, fun v hv => ?_, h7.drop hf ht⟩
  · rw [e1 52 (by decide)]; exact h4
  · obtain ⟨i, -, hi⟩ := (mem_tD hf ht v).mp hv
    exact h6 v (List.mem_of_getElem? hi)
/-- asking for a part -/
theorem LY.ask {bits : Int} {th : Nat → Bool} (h : LY M wr sk w u G on rd b nu gn0 U0 z) (ho : okS b) (hth : BT bits b.length th) (hen : z.2.2.2.2.2.2.2 = 0)
    (k1 : (askS on (ocA w u) z.2.2.2 (mskT b th)).1 = 1 → ∀ M', LFm M M' → LY (si M' 45 52 bits) wr sk w u G on rd b nu gn0 U0 (z.1, th, mskT b th, (askS on (ocA w u) z.2.2.2 (mskT b th)).2) → K 1 M')
    (k0 : ¬ (askS on (ocA w u) z.2.2.2 (mskT b th)).1 = 1 → ∀ M', LFm M M' → LY M' wr sk w u G on rd b nu gn0 U0 (z.1, z.2.1, z.2.2.1, (askS on (ocA w u) z.2.2.2 (mskT b th)).2) → K 0 M') : zCi B zy_X9_askBits 5 0 0 [zR 45, zI bits] M K := by
  obtain ⟨h1, h2, h3, h4, h5, h6, h7⟩ := h
  refine m_X9_askBits h1 h2 ho hth hen (fun M1 f1 hM => ?_)
  have e51 := f1.2 51 (by unfold scrQ; omega) (by decide)
  have e52 := f1.2 52 (by unfold scrQ; omega) (by decide)
  have e55 := f1.2 55 (by unfold scrQ; omega) (by decide)
  have hb := h2.same e51 (f1.1.ge (by decide))
  have hU := h3.same e55 (f1.1.ge (by decide)) (f1.1.ge (by decide))
  have hG : GNY M1 nu gn0 U0 z.1 := fun x => by rw [f1.1.ge (by decide)]; exact h5 x
  by_cases q : (askS on (ocA w u) z.2.2.2 (mskT b th)).1 = 1
  · rw [if_pos q] at hM ⊢
    have fs : zSm [45] M1 (si M1 45 52 bits) := zSm.rf.st (by decide)
    have es : ∀ q, q ≠ 52 → gi (si M1 45 52 bits) 45 q = gi M1 45 q := fun q hq => by rw [gi_si_eq, if_neg hq]
    refine k1 q M1 f1.lfm ⟨hM.scr fs (by decide) (fun q hq => es q (fun y => hq (by unfold scrQ; omega))), hb.same (es 51 (by decide)) (gi_si_ne (by decide)), hU.same (es 55 (by decide)) (gi_si_ne (by decide)) (gi_si_ne (by decide)), ?_, fun x => ?_, h6, h7⟩
    · rw [gi_si_eq, if_pos rfl]; exact hth
    · rw [gi_si_ne (by decide)]; exact hG x
  · rw [if_neg q] at hM ⊢
    exact k0 q M1 f1.lfm ⟨hM, hb, hU, by rw [e52]; exact h4, hG, h6, h7⟩
theorem tkS_end {oc : List Int → Int} {al : Bool} {m : Nat} {p : Int} (h : ¬ z.2.2.2.2.2.2.2 = 0) : tkS on oc b n al m p z = (false, z) := by
  cases m with
  | zero => rfl
  | succ m =>
    unfold tkS
    rw [if_pos h]
theorem mul60 {p m : Int} (h0 : 0 ≤ p) (h1 : p ≤ 60) (h2 : 0 ≤ m) (h3 : m ≤ 60) : 0 ≤ p * m ∧ p * m ≤ 3600 := by
  refine ⟨Int.mul_nonneg h0 h2, ?_⟩
  have : p * m ≤ 60 * m := Int.mul_le_mul_of_nonneg_right h1 h2
  omega
theorem l_X9_rd_alone (hU0 : ∀ v ∈ U0, nu v.2.2 < 61) (ho : okS b) (hn : 2 ≤ n) :
    ∀ (d : Nat) (p : Int) (M : zM) (z : LSt), p + d = n → 0 ≤ p → n ≤ z.1.length → LY M wr sk w u G on rd b nu gn0 U0 z → z.2.2.2.2.2.2.2 = 0 →
    (∀ M' z', LFm M M' → LY M' wr sk w u G on rd b nu gn0 U0 z' → tkS on (ocA w u) b n true d p z = (true, z') → K (if (z'.1.length : Int) = 1 then 1 else 2) M') →
    (∀ M' z', LFm M M' → LY M' wr sk w u G on rd b nu gn0 U0 z' → tkS on (ocA w u) b n true d p z = (false, z') → ¬ z'.2.2.2.2.2.2.2 = 0 → K 0 M') →
    (∀ M' z', LFm M M' → LY M' wr sk w u G on rd b nu gn0 U0 z' → tkS on (ocA w u) b n true d p z = (false, z') → z'.2.2.2.2.2.2.2 = 0 → zGi B zy_X9_round 6 0 0 n0 K 117 [some (zR 45), some (zI n), some (zI (z.1.length : Int)), some (zI 0), none, none, none, none] [] M' 0 0) →
    zGi B zy_X9_round 6 0 0 n0 K 7 [some (zR 45), some (zI n), some (zI (z.1.length : Int)), some (zI p), none, none, none, none] [] M 0 0 := by
  intro d
  induction d with
  | zero =>
    intro p M z hp h0 hnl h hen _ _ k3
    apply b_X9_round_7
    case k1 => intro _; exact k3 M z LFm.rf h rfl hen
    all_goals (intros; omega)
  | succ d ih =>
    intro p M z hp h0 hnl h hen k1 k2 k3
    have hU := h.2.2.1
    have h60 := hU.2.1
    have hpb := parF_bd (n := n) (m := (z.1.length : Int)) (p := p) (by omega) hnl h0 (by omega)
    have m1 := mul60 (p := p) (m := (z.1.length : Int)) h0 (by omega) (by omega) (by omega)
    have m2 := mul60 (p := p + 1) (m := (z.1.length : Int)) (by omega) (by omega) (by omega) (by omega)
    obtain ⟨b1, b2, b3, b4⟩ := hpb
    have hth := fun x => thS_t (U := z.1) (th := z.2.1) (x := x) b1 (show parF n (z.1.length : Int) p ≤ parF n (z.1.length : Int) (p + 1) by omega)
    have hkp := kpS_nat (U := z.1) (al := true) b1 (show parF n (z.1.length : Int) p ≤ parF n (z.1.length : Int) (p + 1) by omega)
    rw [if_pos rfl] at hkp
    unfold tkS at k1 k2 k3
    rw [if_neg (fun q => q hen)] at k1 k2 k3
    apply b_X9_round_7
    case k1 => intro _; omega
    case k2 => intro _ _; omega
    case c1 => intro _ _; omega
    case c2 => intro _ _; omega
    case c3 => intro _ _; omega
    case c4 => intro _ _; omega
    case c5 => intro _ _; omega
    case k3 =>
      intro _ _
      show zCi B zy_X9_unitBits 1 0 0 [zR 45, zI 0, zI (parF n (z.1.length : Int) p)] M (fun x M' => zGi B zy_X9_round 6 0 0 n0 K 44 [some (zR 45), some (zI n), some (zI (z.1.length : Int)), some (zI p), some (zI (parF n (z.1.length : Int) p)), some (zI (parF n (z.1.length : Int) (p + 1))), none, none] [zI x, zI (gi M 45 52)] M' 0 0)
      generalize parF n (z.1.length : Int) p = f at *
      generalize parF n (z.1.length : Int) (p + 1) = t at *
      have ef : f = ((f.toNat : Nat) : Int) := by omega
      have et : t = ((t.toNat : Nat) : Int) := by omega
      have e1 : zCi B zy_X9_unitBits 1 0 0 [zR 45, zI ((0 : Nat) : Int), zI ((f.toNat : Nat) : Int)] M (fun x M' => zGi B zy_X9_round 6 0 0 n0 K 44 [some (zR 45), some (zI n), some (zI (z.1.length : Int)), some (zI p), some (zI f), some (zI t), none, none] [zI x, zI (gi M 45 52)] M' 0 0) := by
        refine m_X9_unitBits hU (Nat.zero_le _) (by omega) (fun x1 hx1 => ?_)
        apply b_X9_round_44
        have e2 : zCi B zy_X9_unitBits 1 0 0 [zR 45, zI ((t.toNat : Nat) : Int), zI (z.1.length : Int)] M (fun x M' => zGi B zy_X9_round 6 0 0 n0 K 51 [some (zR 45), some (zI n), some (zI (z.1.length : Int)), some (zI p), some (zI f), some (zI t), none, none] [zI x, zI x1, zI (gi M 45 52)] M' 0 0) := by
          refine m_X9_unitBits hU (by omega) (Nat.le_refl _) (fun x2 hx2 => ?_)
          rw [List.take_length] at hx2
          apply b_X9_round_51
          refine LY.ask (th := thS z.1 z.2.1 f t true) h ho (fun i hi => ?_) hen (fun q M1 f1 h1 => ?_) (fun q M1 f1 h1 => ?_)
          · have := ho.1
            rw [tb_and, tb_not (by omega), tb_or, h.2.2.2.1 i hi, hx1 i hi, hx2 i hi, hth i, cvL_app, List.drop_zero]
          · rw [if_pos q] at k1
            apply b_X9_round_63
            case k3 =>
              intro _
              rw [et]
              refine LY.drop hU0 h1 (by omega) (Nat.le_refl _) (fun M2 f2 h2 => ?_)
              apply b_X9_round_79
              rw [List.drop_length, List.append_nil] at h2
              rw [ef]
              refine LY.drop (f := 0) (t := f.toNat) (z := (z.1.take t.toNat, z.2)) hU0 h2 (Nat.zero_le _) (by rw [List.length_take]; omega) (fun M3 f3 h3 => ?_)
              apply b_X9_round_86
              rw [List.take_zero, List.nil_append, ← hkp] at h3
              have fs : LFm M1 (si M1 45 52 (zand (gi M 45 52) (zxor (zor x1 x2) (-1)))) := ⟨zSm.rf.st (by decide), fun q hq => by rw [gi_si_eq, if_neg (by omega)]⟩
              have kk := k1 M3 _ ((f1.tr fs).tr (f2.tr f3)) h3 rfl
              rw [h3.2.2.1.1]
              exact kk
            all_goals (intro y; exact absurd y (by decide))
          · rw [if_neg q] at k1 k2 k3
            have e47 : gi M1 45 47 = (askS on (ocA w u) z.2.2.2 (mskT b (thS z.1 z.2.1 f t true))).2.2.2.2.2 := h1.1.2.2.2.2.1.2.2.2.2.1
            apply b_X9_round_63
            case c1 => intro _ _; omega
            case k1 =>
              intro _ y
              rw [e47] at y
              exact ih (p + 1) M1 (z.1, z.2.1, z.2.2.1, (askS on (ocA w u) z.2.2.2 (mskT b (thS z.1 z.2.1 f t true))).2) (by omega) (by omega) hnl h1 y (fun M' z' g1 => k1 M' z' (f1.tr g1)) (fun M' z' g1 => k2 M' z' (f1.tr g1)) (fun M' z' g1 => k3 M' z' (f1.tr g1))
            case k2 =>
              intro _ y
              rw [e47] at y
              exact k2 M1 _ f1 h1 (tkS_end (z := (z.1, z.2.1, z.2.2.1, (askS on (ocA w u) z.2.2.2 (mskT b (thS z.1 z.2.1 f t true))).2)) y) y
            case k3 => intro y; exact absurd rfl y
        rw [← et] at e2
        exact e2
      rw [← ef] at e1
      exact e1
theorem l_X9_rd_without (hU0 : ∀ v ∈ U0, nu v.2.2 < 61) (ho : okS b) (hn : 1 ≤ n) (hn2 : ¬ n = 2) :
    ∀ (d : Nat) (p : Int) (M : zM) (z : LSt), p + d = n → 0 ≤ p → n ≤ z.1.length → LY M wr sk w u G on rd b nu gn0 U0 z → z.2.2.2.2.2.2.2 = 0 →
    (∀ M' z', LFm M M' → LY M' wr sk w u G on rd b nu gn0 U0 z' → tkS on (ocA w u) b n false d p z = (true, z') → K (min (max 2 (n - 1)) (z'.1.length : Int)) M') →
    (∀ M' z', LFm M M' → LY M' wr sk w u G on rd b nu gn0 U0 z' → tkS on (ocA w u) b n false d p z = (false, z') → ¬ z'.2.2.2.2.2.2.2 = 0 → K 0 M') →
    (∀ M' z', LFm M M' → LY M' wr sk w u G on rd b nu gn0 U0 z' → tkS on (ocA w u) b n false d p z = (false, z') → z'.2.2.2.2.2.2.2 = 0 → K (if n = (z.1.length : Int) then 0 else (if (z.1.length : Int) ≤ 2 * n then (z.1.length : Int) else 2 * n)) M') →
    zGi B zy_X9_round 6 0 0 n0 K 117 [some (zR 45), some (zI n), some (zI (z.1.length : Int)), some (zI p), none, none, none, none] [] M 0 0 := by
  intro d
  induction d with
  | zero =>
    intro p M z hp h0 hnl h hen _ _ k3
    have h60 := h.2.2.1.2.1
    apply b_X9_round_117
    case k1 => intro _; exact k3 M z LFm.rf h rfl hen
    all_goals (intros; omega)
  | succ d ih =>
    intro p M z hp h0 hnl h hen k1 k2 k3
    have hU := h.2.2.1
    have h60 := hU.2.1
    have hpb := parF_bd (n := n) (m := (z.1.length : Int)) (p := p) (by omega) hnl h0 (by omega)
    have m1 := mul60 (p := p) (m := (z.1.length : Int)) h0 (by omega) (by omega) (by omega)
    have m2 := mul60 (p := p + 1) (m := (z.1.length : Int)) (by omega) (by omega) (by omega) (by omega)
    obtain ⟨b1, b2, b3, b4⟩ := hpb
    have hth := fun x => thS_f (U := z.1) (th := z.2.1) (x := x) b1 (show parF n (z.1.length : Int) p ≤ parF n (z.1.length : Int) (p + 1) by omega)
    have hkp := kpS_nat (U := z.1) (al := false) b1 (show parF n (z.1.length : Int) p ≤ parF n (z.1.length : Int) (p + 1) by omega)
    rw [if_neg (by decide)] at hkp
    unfold tkS at k1 k2 k3
    rw [if_neg (fun q => q hen)] at k1 k2 k3
    apply b_X9_round_117
    case k1 => intro _; omega
    case k2 => intro _ y; exact absurd y hn2
    case c1 => intro _ _; omega
    case c2 => intro _ _ _; omega
    case c3 => intro _ _; omega
    case c4 => intro _ _; omega
    case c5 => intro _ _; omega
    case c6 => intro _ _; omega
    case c7 => intro _ _; omega
    case k3 =>
      intro _ _
      show zCi B zy_X9_unitBits 1 0 0 [zR 45, zI (parF n (z.1.length : Int) p), zI (parF n (z.1.length : Int) (p + 1))] M (fun x M' => zGi B zy_X9_round 6 0 0 n0 K 155 [some (zR 45), some (zI n), some (zI (z.1.length : Int)), some (zI p), some (zI (parF n (z.1.length : Int) p)), some (zI (parF n (z.1.length : Int) (p + 1))), none, none] [zI x, zI (gi M 45 52)] M' 0 0)
      generalize parF n (z.1.length : Int) p = f at *
      generalize parF n (z.1.length : Int) (p + 1) = t at *
      have ef : f = ((f.toNat : Nat) : Int) := by omega
      have et : t = ((t.toNat : Nat) : Int) := by omega
      have e1 : zCi B zy_X9_unitBits 1 0 0 [zR 45, zI ((f.toNat : Nat) : Int), zI ((t.toNat : Nat) : Int)] M (fun x M' => zGi B zy_X9_round 6 0 0 n0 K 155 [some (zR 45), some (zI n), some (zI (z.1.length : Int)), some (zI p), some (zI f), some (zI t), none, none] [zI x, zI (gi M 45 52)] M' 0 0) := by
        refine m_X9_unitBits hU (by omega) (by omega) (fun x1 hx1 => ?_)
        apply b_X9_round_155
        refine LY.ask (th := thS z.1 z.2.1 f t false) h ho (fun i hi => ?_) hen (fun q M1 f1 h1 => ?_) (fun q M1 f1 h1 => ?_)
        · have := ho.1
          rw [tb_and, tb_not (by omega), h.2.2.2.1 i hi, hx1 i hi, hth i]
        · rw [if_pos q] at k1
          apply b_X9_round_166
          case k3 =>
            intro _
            rw [ef, et]
            refine LY.drop hU0 h1 (by omega) (by omega) (fun M2 f2 h2 => ?_)
            apply b_X9_round_183
            case c1 => omega
            case k1 =>
              rw [← hkp] at h2
              have fs : LFm M1 (si M1 45 52 (zand (gi M 45 52) (zxor x1 (-1)))) := ⟨zSm.rf.st (by decide), fun q hq => by rw [gi_si_eq, if_neg (by omega)]⟩
              have kk := k1 M2 _ ((f1.tr fs).tr f2) h2 rfl
              rw [h2.2.2.1.1]
              have em : ∀ L : Int, (if L ≤ (if 2 ≤ n - 1 then n - 1 else 2) then L else (if 2 ≤ n - 1 then n - 1 else 2)) = min (max 2 (n - 1)) L := fun L => by
                split <;> split at * <;> omega
              rw [em]
              exact kk
          all_goals (intro y; exact absurd y (by decide))
        · rw [if_neg q] at k1 k2 k3
          have e47 : gi M1 45 47 = (askS on (ocA w u) z.2.2.2 (mskT b (thS z.1 z.2.1 f t false))).2.2.2.2.2 := h1.1.2.2.2.2.1.2.2.2.2.1
          apply b_X9_round_166
          case c1 => intro _ _; omega
          case k1 =>
            intro _ y
            rw [e47] at y
            exact ih (p + 1) M1 (z.1, z.2.1, z.2.2.1, (askS on (ocA w u) z.2.2.2 (mskT b (thS z.1 z.2.1 f t false))).2) (by omega) (by omega) hnl h1 y (fun M' z' g1 => k1 M' z' (f1.tr g1)) (fun M' z' g1 => k2 M' z' (f1.tr g1)) (fun M' z' g1 => k3 M' z' (f1.tr g1))
          case k2 =>
            intro _ y
            rw [e47] at y
            exact k2 M1 _ f1 h1 (tkS_end (z := (z.1, z.2.1, z.2.2.1, (askS on (ocA w u) z.2.2.2 (mskT b (thS z.1 z.2.1 f t false))).2)) y) y
          case k3 => intro y; exact absurd rfl y
      rw [← ef, ← et] at e1
      exact e1
end MN26
