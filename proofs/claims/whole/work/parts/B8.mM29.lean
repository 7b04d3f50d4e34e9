/-! ===== by depths: the model ===== -/
/-- whether none of the nodes above is gone -/
def kpF (gn : Nat → Bool) (L : List nd) : Nat → Nat → Bool
  | 0, _ => true
  | f + 1, i => if nP (ndG L i) < 0 then true else (!gn (nP (ndG L i)).toNat && kpF gn L f (nP (ndG L i)).toNat)
theorem kpF_succ {gn : Nat → Bool} {L : List nd} {f i : Nat} : kpF gn L (f + 1) i = if nP (ndG L i) < 0 then true else (!gn (nP (ndG L i)).toNat && kpF gn L f (nP (ndG L i)).toNat) := rfl
theorem kpF_fuel {gn : Nat → Bool} {L : List nd} {wl : Int} (hw : WT wl L) : ∀ (f f' i : Nat), i < L.length → i < f → i < f' → kpF gn L f i = kpF gn L f' i := by
  intro f
  induction f with
  | zero => intro f' i _ h; omega
  | succ f ih =>
    intro f' i hi h h'
    cases f' with
    | zero => omega
    | succ f' =>
      rw [kpF_succ, kpF_succ]
      by_cases z : nP (ndG L i) < 0
      · rw [if_pos z, if_pos z]
      · rw [if_neg z, if_neg z]
        by_cases z0 : i = 0
        · have := hw.2.2.2.1; rw [z0] at z; omega
        · have := hw.2.2.2.2 i (by omega) hi
          rw [ih f' _ (by omega) (by omega) (by omega)]
theorem kpF_cg {gn gn' : Nat → Bool} {L : List nd} {wl : Int} (hw : WT wl L) : ∀ (f i : Nat), i < L.length → (∀ x, x < L.length → nD (ndG L x) < nD (ndG L i) → gn' x = gn x) → kpF gn' L f i = kpF gn L f i := by
  intro f
  induction f with
  | zero => intros; rfl
  | succ f ih =>
    intro i hi h
    rw [kpF_succ, kpF_succ]
    by_cases z : nP (ndG L i) < 0
    · rw [if_pos z, if_pos z]
    · rw [if_neg z, if_neg z]
      by_cases z0 : i = 0
      · have := hw.2.2.2.1; rw [z0] at z; omega
      · have := hw.2.2.2.2 i (by omega) hi
        rw [ih _ (by omega) (fun x hx hd => h x hx (by omega)), h _ (by omega) (by omega)]
theorem kpF_par {gn : Nat → Bool} {L : List nd} {wl : Int} (hw : WT wl L) (h60 : L.length ≤ 60) {i : Nat} (h0 : 0 < i) (hi : i < L.length) : kpF gn L 60 i = (!gn (nP (ndG L i)).toNat && kpF gn L 60 (nP (ndG L i)).toNat) := by
  have := hw.2.2.2.2 i h0 hi
  rw [show (60 : Nat) = 59 + 1 from rfl, kpF_succ, if_neg (by omega), kpF_fuel hw 59 (59 + 1) _ (by omega) (by omega) (by omega)]
def gnM (M : zM) (x : Nat) : Bool := decide (¬ gi M 81 x = 0)
theorem gnM_iff {M : zM} {x : Nat} : gnM M x = true ↔ ¬ gi M 81 x = 0 := by unfold gnM; simp
section MN29
variable {B : zB} {n0 : Nat} {K : Int → zM → Prop} {Kv : zM → Prop} {M : zM} {L : List nd} {wl : Int}
theorem m_X9_isKept {i : Nat} (hP : PM M L) (hw : WT wl L) (h60 : L.length ≤ 60) (hi : i < L.length) (kk : K (if kpF (gnM M) L 60 i = true then 1 else 0) M) : zCi B zy_X9_isKept 1 0 0 [zR 45, zI (i : Int)] M K := by
  have LL : ∀ (f k n0 : Nat), k ≤ f → k < L.length → K (if kpF (gnM M) L (f + 1) k = true then 1 else 0) M → zGi B zy_X9_isKept 1 0 0 n0 K 7 [some (zR 45), some (zI (i : Int)), some (zI (nP (ndG L k)))] [] M 0 0 := by
    intro f
    induction f with
    | zero =>
      intro k n0 hk hkl hK
      have hk0 : k = 0 := by omega
      have := hw.2.2.2.1
      rw [← hk0] at this
      rw [kpF_succ, if_pos (show nP (ndG L k) < 0 by omega), if_pos rfl] at hK
      apply b_X9_isKept_7
      case k1 => intro _; exact hK
      all_goals (intros; omega)
    | succ f ih =>
      intro k n0 hk hkl hK
      rw [kpF_succ] at hK
      by_cases z : nP (ndG L k) < 0
      · rw [if_pos z, if_pos rfl] at hK
        apply b_X9_isKept_7
        case k1 => intro _; exact hK
        all_goals (intros; omega)
      · rw [if_neg z] at hK
        by_cases z0 : k = 0
        · have := hw.2.2.2.1; rw [z0] at z; omega
        · have hp := hw.2.2.2.2 k (by omega) hkl
          apply b_X9_isKept_7
          case k1 => intro y; omega
          case c1 => intro _; omega
          case k2 =>
            intro _ y
            have hg : gnM M (nP (ndG L k)).toNat = false := by unfold gnM; simp [y]
            rw [hg, Bool.not_false, Bool.true_and] at hK
            rw [(hP.all (k := (nP (ndG L k)).toNat) (by omega)).2.2.2.2.2]
            exact ih _ n0 (by omega) (by omega) hK
          case k3 =>
            intro _ y
            have hg : gnM M (nP (ndG L k)).toNat = true := gnM_iff.mpr y
            rw [hg, Bool.not_true, Bool.false_and, if_neg (by decide)] at hK
            exact hK
  refine e_X9_isKept (fun n0 => ?_)
  apply b_X9_isKept_0
  case c1 => omega
  case k1 =>
    rw [show ((i : Int)).toNat = i from rfl, (hP.all hi).2.2.2.2.2]
    exact LL 59 i n0 (by omega) hi kk
theorem lvU_succ {av : Nat → Bool} {d : Int} {m i : Nat} : lvU L av d (m + 1) i = if (decide (nD (ndG L i) = d) && av (nP (ndG L i)).toNat) = true then (nB (ndG L i), nB (ndG L i) + nZ (ndG L i), (i : Int)) :: lvU L av d m (i + 1) else lvU L av d m (i + 1) := rfl
theorem lvU_ge {av : Nat → Bool} {d : Int} : ∀ (m i : Nat), ∀ v ∈ lvU L av d m i, (i : Int) ≤ v.2.2 := by
  intro m
  induction m with
  | zero => intro i v hv; cases hv
  | succ m ih =>
    intro i v hv
    rw [lvU_succ] at hv
    split at hv
    · rcases List.mem_cons.mp hv with q | q
      · rw [q]; exact Int.le_refl _
      · have := ih (i + 1) v q; omega
    · have := ih (i + 1) v hv; omega
theorem DS.cons {nu : Int → Int} {U : List un} {v : un} (h : DS nu U) (hv : ∀ w ∈ U, nu w.2.2 ≠ nu v.2.2) : DS nu (v :: U) := by
  intro i k a b hi hk h0 he
  cases i with
  | zero =>
    cases k with
    | zero => rfl
    | succ k =>
      rw [List.getElem?_cons_zero] at hi
      rw [List.getElem?_cons_succ] at hk
      have e : a = v := (Option.some.inj hi).symm
      rw [e] at he
      exact absurd he.symm (hv b (List.mem_of_getElem? hk))
  | succ i =>
    rw [List.getElem?_cons_succ] at hi
    cases k with
    | zero =>
      rw [List.getElem?_cons_zero] at hk
      have e : b = v := (Option.some.inj hk).symm
      rw [e] at he
      exact absurd he (hv a (List.mem_of_getElem? hi))
    | succ k =>
      rw [List.getElem?_cons_succ] at hk
      rw [h i k a b hi hk h0 he]
theorem lvU_ds {av : Nat → Bool} {d : Int} : ∀ (m i : Nat), DS (fun x => x) (lvU L av d m i) := by
  intro m
  induction m with
  | zero => intro i p q a b hi; cases hi
  | succ m ih =>
    intro i
    rw [lvU_succ]
    split
    · refine (ih (i + 1)).cons (fun w hw => ?_)
      have := lvU_ge m (i + 1) w hw
      dsimp only
      omega
    · exact ih (i + 1)
theorem lvU_mem {av : Nat → Bool} {d : Int} : ∀ (m i x : Nat), i ≤ x → x < i + m → nD (ndG L x) = d → av (nP (ndG L x)).toNat = true → ∃ v ∈ lvU L av d m i, v.2.2 = (x : Int) := by
  intro m
  induction m with
  | zero => intro i x h1 h2; omega
  | succ m ih =>
    intro i x h1 h2 hd ha
    rw [lvU_succ]
    by_cases z : x = i
    · rw [← z, if_pos (by simp [hd, ha])]
      exact ⟨_, List.mem_cons_self, rfl⟩
    · obtain ⟨v, hv, e⟩ := ih (i + 1) x (by omega) (by omega) hd ha
      split
      · exact ⟨v, List.mem_cons_of_mem _ hv, e⟩
      · exact ⟨v, hv, e⟩
theorem lvU_av {av : Nat → Bool} {d : Int} : ∀ (m i : Nat), ∀ v ∈ lvU L av d m i, ∃ x : Nat, v.2.2 = (x : Int) ∧ x < i + m ∧ nD (ndG L x) = d ∧ av (nP (ndG L x)).toNat = true := by
  intro m
  induction m with
  | zero => intro i v hv; cases hv
  | succ m ih =>
    intro i v hv
    rw [lvU_succ] at hv
    by_cases z : (decide (nD (ndG L i) = d) && av (nP (ndG L i)).toNat) = true
    · rw [if_pos z] at hv
      rcases List.mem_cons.mp hv with q | q
      · rw [Bool.and_eq_true, decide_eq_true_eq] at z
        exact ⟨i, by rw [q], by omega, z.1, z.2⟩
      · obtain ⟨x, h1, h2, h3⟩ := ih (i + 1) v q
        exact ⟨x, h1, by omega, h3⟩
    · rw [if_neg z] at hv
      obtain ⟨x, h1, h2, h3⟩ := ih (i + 1) v hv
      exact ⟨x, h1, by omega, h3⟩
end MN29
section MN29b
variable {B : zB} {n0 : Nat} {K : Int → zM → Prop} {Kv : zM → Prop} {M : zM} {wr : List Int} {sk : List (List st3 × Int)} {w u : List st3} {G : Option GC} {on rd : Int} {L : List nd} {b : List Int}
/-- who is kept at a depth -/
def AVM (gn : Nat → Bool) (L : List nd) (d : Int) (av : Nat → Bool) : Prop := ∀ i, i < L.length → nD (ndG L i) = d → av i = (!gn i && kpF gn L 60 i)
theorem PM.lfm {M' : zM} (h : PM M L) (f : LFm M M') : PM M' L := h.same (f.2 27 (by simp)) (fun a h1 h2 => f.1.ge (by simp; omega))
theorem l_X9_bd_71 (hw : WT b.length L) (h60 : L.length ≤ 60) (ho : okS b) {v1 d : Int} (hd : 1 ≤ d) {av : Nat → Bool} {ty : List Int} {j : JS} {th : Nat → Bool} (hav : AVM (gnM M) L (d - 1) av)
    (kn : ∀ M2, zSm [45, 79, 80] M M2 → MS M2 ty wr sk w u G j on rd → bM M2 b → BT (gi M2 45 52) b.length th → PM M2 L → gi M2 81 = gi M 81 → UM M2 b.length (fun x => x) (lvU L av d L.length 0) → zCv B zy_X9_lessen 7 0 0 [zR 45] M2 (fun M' => zGv B zy_X9_byDepths 8 0 0 n0 Kv 127 [some (zR 45), some (zI v1), some (zI d), some (zI (L.length : Int))] [] M' 0 0)) :
    ∀ (m i : Nat) (M1 : zM) (U : List un), i + m = L.length → U.length ≤ i → zSm [45, 79, 80] M M1 → MS M1 ty wr sk w u G j on rd → bM M1 b → BT (gi M1 45 52) b.length th → PM M1 L → UM M1 b.length (fun x => x) U → U ++ lvU L av d m i = lvU L av d L.length 0 →
      zGv B zy_X9_byDepths 8 0 0 n0 Kv 71 [some (zR 45), some (zI v1), some (zI d), some (zI (i : Int))] [] M1 0 0 := by
  have h32 := ho.1
  intro m
  induction m with
  | zero =>
    intro i M1 U hi hUl f h hb hth hP hU hsg
    have e27 := hP.1
    have e0 : lvU L av d 0 i = [] := rfl
    rw [e0, List.append_nil] at hsg
    rw [hsg] at hU
    have ei : i = L.length := by omega
    apply b_X9_byDepths_71
    case k1 =>
      intro _
      rw [ei]
      exact kn M1 f h hb hth hP (f.ge (by decide)) hU
    all_goals (intro q; rw [e27] at q; omega)
  | succ m ih =>
    intro i M1 U hi hUl f h hb hth hP hU hsg
    have e27 := hP.1
    have hil : i < L.length := by omega
    have ei : ((i : Int)).toNat = i := rfl
    obtain ⟨c64, c65, c66, c67, c68, c69⟩ := hP.all hil
    have hnb := hw.2.1 i hil
    rw [lvU_succ] at hsg
    have g81 : gnM M1 = gnM M := by funext x; unfold gnM; rw [f.ge (by decide)]
    apply b_X9_byDepths_71
    case k1 => intro q; rw [e27] at q; omega
    case c1 => intro _; omega
    case c2 => intro _ _; omega
    case k2 =>
      intro _ q
      rw [ei, c68] at q
      rw [if_neg (by simp [q])] at hsg
      exact ih (i + 1) M1 U (by omega) (by omega) f h hb hth hP hU hsg
    case k3 =>
      intro _ q
      rw [ei, c68] at q
      have hi0 : 0 < i := by
        by_cases z : i = 0
        · have := hw.2.2.1; rw [z] at q; omega
        · omega
      have hpar := hw.2.2.2.2 i hi0 hil
      refine m_X9_isKept hP hw h60 hil ?_
      have hk : kpF (gnM M1) L 60 i = av (nP (ndG L i)).toNat := by
        rw [g81, kpF_par hw h60 hi0 hil, hav _ (by omega) (by omega)]
      rw [hk]
      by_cases y : av (nP (ndG L i)).toNat = true
      · rw [if_pos y]
        rw [if_pos (by simp [q, y])] at hsg
        apply b_X9_byDepths_94
        case c1 => intro z; exact absurd z (by decide)
        case k1 => intro z; exact absurd z (by decide)
        case c2 => intro _; omega
        case k2 =>
          intro _
          rw [ei, c66, c67]
          obtain ⟨q1, q2, q3, q4, q5⟩ := hnb
          refine p_X9_run q3 q4 (by omega) (fun x hx => ?_)
          apply b_X9_byDepths_113
          refine m_X9_addUnit (u := (nB (ndG L i), nB (ndG L i) + nZ (ndG L i), (i : Int))) hU (by omega) (fun p hp => ?_) rfl (fun M2 f2 e2 hU2 => ?_)
          · rw [hx p (by omega)]
            rfl
          · apply b_X9_byDepths_117
            case c1 => omega
            case k1 =>
              exact ih (i + 1) M2 _ (by omega) (by rw [List.length_append, List.length_singleton]; omega) (f.tr f2) (h.scr f2 (by decide) (fun q hq => e2 q (fun y => hq (by unfold scrQ; omega)))) (hb.same (e2 51 (by decide)) (f2.ge (by decide))) (by rw [e2 52 (by decide)]; exact hth) (hP.same (e2 27 (by decide)) (fun a h1 h2 => f2.ge (by simp; omega))) hU2 (by rw [List.append_assoc]; exact hsg)
      · rw [if_neg y]
        rw [if_neg (by simp [y])] at hsg
        apply b_X9_byDepths_94
        case c1 => intro _; omega
        case k1 => intro _; exact ih (i + 1) M1 U (by omega) (by omega) f h hb hth hP hU hsg
        case c2 => intro z; exact absurd rfl z
        case k2 => intro z; exact absurd rfl z
theorem l_X9_bd_52 (hw : WT b.length L) (h60 : L.length ≤ 60) (ho : okS b) : ∀ (m : Nat) (d : Int) (M1 : zM) (av : Nat → Bool) (th : Nat → Bool) (ty : List Int) (j : JS), d + m = dpL L + 1 → 1 ≤ d → FM M M1 → MS M1 ty wr sk w u G j on rd → bM M1 b → BT (gi M1 45 52) b.length th → PM M1 L → AVM (gnM M1) L (d - 1) av → (∀ x, x < L.length → d ≤ nD (ndG L x) → gnM M1 x = false) →
    (∀ M', FM M M' → MS M' (lvS on (ocA w u) b L m d av (th, ty, j)).2.1 wr sk w u G (lvS on (ocA w u) b L m d av (th, ty, j)).2.2 on rd → Kv M') →
    zGv B zy_X9_byDepths 8 0 0 n0 Kv 52 [some (zR 45), some (zI (dpL L)), some (zI d), none] [] M1 0 0 := by
  have h32 := ho.1
  intro m
  induction m with
  | zero =>
    intro d M1 av th ty j hd hd1 fm h hb hth hP hav hgn k
    have kk := k M1 fm h
    apply b_X9_byDepths_52
    case k1 => intro _; exact kk
    all_goals (intros; omega)
  | succ m ih =>
    intro d M1 av th ty j hd hd1 fm h hb hth hP hav hgn k
    have e47 : gi M1 45 47 = j.2.2.2.2 := h.2.2.2.2.1.2.2.2.2.1
    have hd60 := dpL_bd hw h60
    have hlv : lvS on (ocA w u) b L (m + 1) d av (th, ty, j) = if ¬ j.2.2.2.2 = 0 then (th, ty, j) else lvS on (ocA w u) b L m (d + 1) (fun i => (lesS on (ocA w u) b (lvU L av d (L.length - 1) 1, th, ty, j)).1.any (fun u => decide (u.2.2 = (i : Int)))) (lesS on (ocA w u) b (lvU L av d (L.length - 1) 1, th, ty, j)).2 := rfl
    rw [hlv] at k
    apply b_X9_byDepths_52
    case k1 => intro q; omega
    case k2 =>
      intro _ q
      rw [e47] at q
      rw [if_pos q] at k
      exact k M1 fm h
    case k3 =>
      intro _ q
      rw [e47] at q
      rw [if_neg (fun z => z q)] at k
      have f1 : zSm [45] M1 (si M1 45 55 0) := zSm.rf.st (by decide)
      have e1 : ∀ q, q ≠ 55 → gi (si M1 45 55 0) 45 q = gi M1 45 q := fun q hq => by rw [gi_si_eq, if_neg hq]
      have hgs : gnM (si M1 45 55 0) = gnM M1 := by funext x; unfold gnM; rw [gi_si_ne (by decide)]
      -- node 0 is no unit
      have hl0 : lvU L av d L.length 0 = lvU L av d (L.length - 1) 1 := by
        have hL1 := hw.1
        rw [show L.length = (L.length - 1) + 1 from by omega, lvU_succ, if_neg]
        · rfl
        · have := hw.2.2.1
          simp only [Bool.and_eq_true, decide_eq_true_eq]
          omega
      refine l_X9_bd_71 (M := si M1 45 55 0) (av := av) (th := th) hw h60 ho hd1 (by rw [hgs]; exact hav) (fun M2 f2 h2 hb2 hth2 hP2 g2 hU2 => ?_) L.length 0 _ [] (by omega) (Nat.le_refl _) zSm.rf (h.scr f1 (by decide) (fun q hq => e1 q (fun y => hq (by unfold scrQ; omega)))) (hb.same (e1 51 (by decide)) (gi_si_ne (by decide))) (by rw [e1 52 (by decide)]; exact hth) (hP.same (e1 27 (by decide)) (fun a h1 h2 => gi_si_ne (by omega))) ⟨by rw [gi_si_eq, if_pos rfl]; rfl, by decide, fun i v hv => by cases hv⟩ rfl
      rw [hl0] at hU2
      have hL1 := hw.1
      have hUa := lvU_av (L := L) (av := av) (d := d) (L.length - 1) 1
      have hly : LY M2 wr sk w u G on rd b (fun x => x) (fun x => gnM M1 x = true) (lvU L av d (L.length - 1) 1) (lvU L av d (L.length - 1) 1, th, ty, j) := ⟨h2, hb2, hU2, hth2, fun x => by
        rw [g2, gi_si_ne (by decide), ← gnM_iff]
        exact ⟨fun y => Or.inl y, fun y => y.elim id (fun y => absurd y.1 y.2)⟩, fun v hv => hv, lvU_ds _ _⟩
      refine m_X9_lessen (fun v hv => ?_) ho hly (fun M3 f3 h3 => ?_)
      · obtain ⟨x, e, hx, -⟩ := hUa v hv
        omega
      · have hsub : ∀ v ∈ (lesS on (ocA w u) b (lvU L av d (L.length - 1) 1, th, ty, j)).1, v ∈ lvU L av d (L.length - 1) 1 := leS_sub 5000 _ _
        generalize lesS on (ocA w u) b (lvU L av d (L.length - 1) 1, th, ty, j) = zz at *
        obtain ⟨l1, l2, l3, l4, l5, -, -⟩ := h3
        have hG : ∀ x : Nat, gnM M3 x = true ↔ (gnM M1 x = true ∨ ((∃ v ∈ lvU L av d (L.length - 1) 1, v.2.2 = (x : Int)) ∧ ¬ ∃ v ∈ zz.1, v.2.2 = (x : Int))) := fun x => by rw [gnM_iff]; exact l5 x
        have hno : ∀ x : Nat, nD (ndG L x) ≠ d → ¬ ∃ v ∈ lvU L av d (L.length - 1) 1, v.2.2 = (x : Int) := fun x hx ⟨v, hv, e⟩ => by
          obtain ⟨y, e2, hy, hdy, -⟩ := hUa v hv
          have : x = y := by omega
          rw [this] at hx
          exact hx hdy
        have hsame : ∀ x : Nat, nD (ndG L x) ≠ d → gnM M3 x = gnM M1 x := fun x hx => by
          rw [Bool.eq_iff_iff, hG x]
          exact ⟨fun y => y.elim id (fun y => absurd y.1 (hno x hx)), fun y => Or.inl y⟩
        apply b_X9_byDepths_127
        case c1 => omega
        case k1 =>
          refine ih (d + 1) M3 (fun i => zz.1.any (fun u => decide (u.2.2 = (i : Int)))) zz.2.1 zz.2.2.1 zz.2.2.2 (by omega) (by omega) (fm.tr ((f1.fm (by decide)).tr ((f2.fm (by decide)).tr f3.fm))) l1 l2 l4 (hP2.lfm f3) (fun i hi hdi => ?_) (fun x hx hdx => ?_) k
          · have hdi' : nD (ndG L i) = d := by omega
            have hi0 : 0 < i := by
              by_cases z : i = 0
              · have := hw.2.2.1; rw [z] at hdi'; omega
              · omega
            have hpar := hw.2.2.2.2 i hi0 hi
            have hk : kpF (gnM M3) L 60 i = av (nP (ndG L i)).toNat := by
              rw [kpF_cg hw 60 i hi (gn := gnM M1) (fun x hx hd2 => hsame x (by omega)), kpF_par hw h60 hi0 hi, hav _ (by omega) (by omega)]
            rw [hk]
            have hany : (zz.1.any (fun u => decide (u.2.2 = (i : Int)))) = true ↔ ∃ v ∈ zz.1, v.2.2 = (i : Int) := by
              rw [List.any_eq_true]
              simp only [decide_eq_true_eq]
            have hg0 := hgn i hi (by omega)
            by_cases y : av (nP (ndG L i)).toNat = true
            · have hin := lvU_mem (L := L) (av := av) (d := d) (L.length - 1) 1 i (by omega) (by omega) hdi' y
              rw [y, Bool.and_true, Bool.eq_iff_iff, hany, Bool.not_eq_true', ← Bool.not_eq_true, hG i, hg0]
              constructor
              · rintro q (q2 | q2)
                · exact absurd q2 (by decide)
                · exact q2.2 q
              · intro q
                exact Classical.byContradiction (fun z => q (Or.inr ⟨hin, z⟩))
            · have hf : av (nP (ndG L i)).toNat = false := by simpa using y
              rw [hf, Bool.and_false, ← Bool.not_eq_true, hany]
              rintro ⟨v, hv, e⟩
              obtain ⟨x, e2, hx, hdx, hax⟩ := hUa v (hsub v hv)
              have : x = i := by omega
              rw [this] at hax
              exact y hax
          · rw [hsame x (by omega)]
            exact hgn x hx (by omega)
end MN29b
