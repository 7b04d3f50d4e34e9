/-! ===== a node's moves: the model ===== -/
section MN32
variable {B : zB} {n0 : Nat} {K : Int → zM → Prop} {Kv : zM → Prop} {M : zM} {ty wr : List Int} {sk : List (List st3 × Int)} {w u : List st3} {G : Option GC} {j : JS} {on rd : Int} {L : List nd}
theorem l_X9_movesOf_46 (hw : WT ty.length L) (h60 : L.length ≤ 60) (h32 : ty.length ≤ 32) {i : Nat} (hi : i < L.length) :
    ∀ (m x : Nat) (M1 : zM) (j : JS), x + m = L.length → i < x → TFm M M1 → MS M1 ty wr sk w u G j on rd → MVM M1 L →
    ((tmS on (ocA w u) (prG G) ty L i m x j).1 = true → ∀ M', TFm M M' → MS M' (tmS on (ocA w u) (prG G) ty L i m x j).2.1 wr sk w u G (tmS on (ocA w u) (prG G) ty L i m x j).2.2 on rd → K 1 M') →
    (¬ (tmS on (ocA w u) (prG G) ty L i m x j).1 = true → ∀ M', TFm M M' → MS M' ty wr sk w u G (tmS on (ocA w u) (prG G) ty L i m x j).2.2 on rd → MVM M' L → K 0 M') →
    zGi B zy_X9_movesOf 10 0 0 n0 K 46 [some (zR 45), some (zI (i : Int)), some (zI (x : Int)), none] [] M1 0 0 := by
  intro m
  induction m with
  | zero =>
    intro x M1 j hx hix tf h hv kT kF
    have e63 := hv.1
    have kk := kF (by show ¬ false = true; decide) M1 tf h hv
    apply b_X9_movesOf_46
    case k1 => intro _; exact kk
    all_goals (intro q; rw [e63] at q; omega)
  | succ m ih =>
    intro x M1 j hx hix tf h hv kT kF
    have e63 := hv.1
    have hxl : x < L.length := by omega
    have ex : ((x : Int)).toNat = x := rfl
    have ei : ((i : Int)).toNat = i := rfl
    obtain ⟨x1, x2, x3, x4, x5⟩ := hv.2 x hxl
    obtain ⟨i1, i2, i3, i4, i5⟩ := hv.2 i hi
    have e47 : gi M1 45 47 = j.2.2.2.2 := h.2.2.2.2.1.2.2.2.2.1
    have hne : ¬ x = i := by omega
    obtain ⟨q1, q2, q3, q4, q5⟩ := hw.2.1 x hxl
    obtain ⟨r1, r2, r3, r4, r5⟩ := hw.2.1 i hi
    have hisM : isM L i x = true ↔ (nR (ndG L x) < 6 ∧ nR (ndG L x) = nR (ndG L i) ∧ nZ (ndG L x) < nZ (ndG L i)) := by
      unfold isM
      rw [if_neg hne]
      simp only [Bool.and_eq_true, decide_eq_true_eq]
      exact ⟨fun ⟨⟨a, b⟩, c⟩ => ⟨a, b, c⟩, fun ⟨a, b, c⟩ => ⟨⟨a, b⟩, c⟩⟩
    apply b_X9_movesOf_46
    case k1 => intro q; rw [e63] at q; omega
    case c1 => intro _; omega
    case c2 => intro _; omega
    case k2 =>
      intro _ q
      rw [ex, ei, x5, i5] at q
      rw [tmS_succ, if_pos ⟨hne, q⟩] at kF
      exact kF (show ¬ false = true by decide) M1 tf h hv
    case k3 =>
      intro _ _ q
      rw [e47] at q
      rw [tmS_end q] at kF
      exact kF (show ¬ false = true by decide) M1 tf h hv
    case c3 => intro _ _ _ _ _ _; omega
    case k4 =>
      intro _ qd qe y hy hy0
      rw [ex, ei] at hy
      rw [ex, ei, x5, i5] at qd
      rw [x2, x3, i2, i3] at hy
      have hnm : ¬ isM L i x = true := fun z => by rw [if_pos (hisM.mp z)] at hy; omega
      rw [tmS_succ, if_neg (fun z => by omega), if_neg (fun z => hnm z.1)] at kT kF
      exact ih (x + 1) M1 j (by omega) (by omega) tf h hv kT kF
    case k5 =>
      intro _ qd qe y hy hy0
      rw [ex, ei] at hy
      rw [ex, ei, x5, i5] at qd
      rw [e47] at qe
      rw [x2, x3, i2, i3] at hy
      have hm : isM L i x = true := by
        by_cases z : nR (ndG L x) < 6 ∧ nR (ndG L x) = nR (ndG L i) ∧ nZ (ndG L x) < nZ (ndG L i)
        · exact hisM.mpr z
        · rw [if_neg z] at hy; omega
      have hzz := hisM.mp hm
      rw [tmS_succ, if_neg (fun z => by omega)] at kT kF
      have ea : mvT ty L i x = ty.take (nB (ndG L i)).toNat ++ (ty.take ((nB (ndG L x)).toNat + (nZ (ndG L x)).toNat)).drop (nB (ndG L x)).toNat ++ ty.drop ((nB (ndG L i)).toNat + (nZ (ndG L i)).toNat) := by
        unfold mvT
        rw [if_neg hne, show (nB (ndG L x) + nZ (ndG L x)).toNat = (nB (ndG L x)).toNat + (nZ (ndG L x)).toNat from by omega, show (nB (ndG L i) + nZ (ndG L i)).toNat = (nB (ndG L i)).toNat + (nZ (ndG L i)).toNat from by omega]
      generalize mvT ty L i x = a at *
      rw [ex, ei, x1, x2, i1, i2, (by omega : nB (ndG L i) = (((nB (ndG L i)).toNat : Nat) : Int)), (by omega : nZ (ndG L i) = (((nZ (ndG L i)).toNat : Nat) : Int)), (by omega : nB (ndG L x) = (((nB (ndG L x)).toNat : Nat) : Int)), (by omega : nZ (ndG L x) = (((nZ (ndG L x)).toNat : Nat) : Int))]
      refine m_X9_take h (by omega) (by omega) (by omega) qe ea (fun hp M2 f2 h2 => ?_) (fun hp hq M2 f2 h2 => ?_) (fun hp hq M2 f2 h2 => ?_)
      · rw [if_neg (fun z => by rw [hp] at z; exact absurd z.2 (by decide))] at kT kF
        apply b_X9_movesOf_155
        case c1 => intro _; omega
        case k1 => intro _; exact ih (x + 1) M2 j (by omega) (by omega) (tf.tr f2) h2 (hv.tfm f2) kT kF
        case k2 => intro z; exact absurd rfl z
      · rw [if_pos ⟨hm, hp⟩, if_pos hq] at kT
        apply b_X9_movesOf_155
        case c1 => intro _; omega
        case k1 => intro z; exact absurd z (by decide)
        case k2 => intro _; exact kT rfl M2 (tf.tr f2) h2
      · rw [if_pos ⟨hm, hp⟩, if_neg hq] at kT kF
        apply b_X9_movesOf_155
        case c1 => intro _; omega
        case k1 => intro _; exact ih (x + 1) M2 _ (by omega) (by omega) (tf.tr f2) h2 (hv.tfm f2) kT kF
        case k2 => intro z; exact absurd rfl z
theorem m_X9_movesOf (hw : WT ty.length L) (h60 : L.length ≤ 60) {i : Nat} (hi : i < L.length) (hz : 0 < nZ (ndG L i)) (h : MS M ty wr sk w u G j on rd) (hv : MVM M L) (hen : j.2.2.2.2 = 0)
    (kT : (tmS on (ocA w u) (prG G) ty L i (L.length - i) i j).1 = true → ∀ M', TFm M M' → MS M' (tmS on (ocA w u) (prG G) ty L i (L.length - i) i j).2.1 wr sk w u G (tmS on (ocA w u) (prG G) ty L i (L.length - i) i j).2.2 on rd → K 1 M')
    (kF : ¬ (tmS on (ocA w u) (prG G) ty L i (L.length - i) i j).1 = true → ∀ M', TFm M M' → MS M' ty wr sk w u G (tmS on (ocA w u) (prG G) ty L i (L.length - i) i j).2.2 on rd → MVM M' L → K 0 M') : zCi B zy_X9_movesOf 10 0 0 [zR 45, zI (i : Int)] M K := by
  have h32 := h.1.2.2.1
  have ei : ((i : Int)).toNat = i := rfl
  obtain ⟨i1, i2, i3, i4, i5⟩ := hv.2 i hi
  obtain ⟨r1, r2, r3, r4, r5⟩ := hw.2.1 i hi
  have hisM : isM L i i = true ↔ ¬ nL (ndG L i) = 0 := by
    unfold isM
    rw [if_pos rfl]
    simp
  rw [show L.length - i = (L.length - (i + 1)) + 1 from by omega, tmS_succ, if_neg (fun z => z.1 rfl)] at kT kF
  have e1 : (i : Int) + 1 = ((i + 1 : Nat) : Int) := by omega
  refine e_X9_movesOf (fun n0 => ?_)
  apply b_X9_movesOf_0
  case c1 => omega
  case c2 => intro _; omega
  case c3 => intro _ _; omega
  case k1 =>
    intro q
    rw [ei, i4] at q
    rw [if_neg (fun z => hisM.mp z.1 (by omega))] at kT kF
    rw [e1]
    exact l_X9_movesOf_46 (M := M) hw h60 h32 hi (L.length - (i + 1)) (i + 1) M j (by omega) (by omega) TFm.rf h hv kT kF
  case k2 => intro _ q; rw [ei, i2] at q; omega
  case k3 =>
    intro q _
    rw [ei, i4] at q
    have hm : isM L i i = true := hisM.mpr (by omega)
    have ea : mvT ty L i i = ty.take (nB (ndG L i)).toNat ++ (ty.take (0 + 0)).drop 0 ++ ty.drop ((nB (ndG L i)).toNat + (nZ (ndG L i)).toNat) := by
      unfold mvT
      rw [if_pos rfl, show (nB (ndG L i) + nZ (ndG L i)).toNat = (nB (ndG L i)).toNat + (nZ (ndG L i)).toNat from by omega, Int.add_zero, tdI_nil, tdI_nil]
    generalize mvT ty L i i = a at *
    rw [ei, i1, i2, (by omega : nB (ndG L i) = (((nB (ndG L i)).toNat : Nat) : Int)), (by omega : nZ (ndG L i) = (((nZ (ndG L i)).toNat : Nat) : Int))]
    refine m_X9_take (fr := 0) (tk := 0) h (by omega) (by omega) (by omega) hen ea (fun hp M2 f2 h2 => ?_) (fun hp hq M2 f2 h2 => ?_) (fun hp hq M2 f2 h2 => ?_)
    · rw [if_neg (fun z => by rw [hp] at z; exact absurd z.2 (by decide))] at kT kF
      apply b_X9_movesOf_37
      case c1 => intro _; omega
      case k1 => intro _; rw [e1]; exact l_X9_movesOf_46 (M := M) hw h60 h32 hi (L.length - (i + 1)) (i + 1) M2 j (by omega) (by omega) f2 h2 (hv.tfm f2) kT kF
      case k2 => intro z; exact absurd rfl z
    · rw [if_pos ⟨hm, hp⟩, if_pos hq] at kT
      apply b_X9_movesOf_37
      case c1 => intro _; omega
      case k1 => intro z; exact absurd z (by decide)
      case k2 => intro _; exact kT rfl M2 f2 h2
    · rw [if_pos ⟨hm, hp⟩, if_neg hq] at kT kF
      apply b_X9_movesOf_37
      case c1 => intro _; omega
      case k1 => intro _; rw [e1]; exact l_X9_movesOf_46 (M := M) hw h60 h32 hi (L.length - (i + 1)) (i + 1) M2 _ (by omega) (by omega) f2 h2 (hv.tfm f2) kT kF
      case k2 => intro z; exact absurd rfl z
/-- a node without characters has no move -/
theorem m_X9_movesOf0 (hw : WT ty.length L) (h60 : L.length ≤ 60) {i : Nat} (hi : i < L.length) (hz : nZ (ndG L i) = 0) (hv : MVM M L) (kk : K 0 M) : zCi B zy_X9_movesOf 10 0 0 [zR 45, zI (i : Int)] M K := by
  have ei : ((i : Int)).toNat = i := rfl
  obtain ⟨i1, i2, i3, i4, i5⟩ := hv.2 i hi
  have LL : ∀ (m x n0 : Nat), x + m = L.length → i < x → zGi B zy_X9_movesOf 10 0 0 n0 K 46 [some (zR 45), some (zI (i : Int)), some (zI (x : Int)), none] [] M 0 0 := by
    intro m
    induction m with
    | zero =>
      intro x n0 hx hix
      have e63 := hv.1
      apply b_X9_movesOf_46
      case k1 => intro _; exact kk
      all_goals (intro q; rw [e63] at q; omega)
    | succ m ih =>
      intro x n0 hx hix
      have e63 := hv.1
      have ex : ((x : Int)).toNat = x := rfl
      obtain ⟨x1, x2, x3, x4, x5⟩ := hv.2 x (by omega)
      obtain ⟨q1, q2, q3, q4, q5⟩ := hw.2.1 x (by omega)
      apply b_X9_movesOf_46
      case k1 => intro _; exact kk
      case c1 => intro _; omega
      case c2 => intro _; omega
      case k2 => intro _ _; exact kk
      case k3 => intro _ _ _; exact kk
      case c3 => intro _ _ _ _ _ _; omega
      case k4 => intro _ _ _ _ _ _; exact ih (x + 1) n0 (by omega) (by omega)
      case k5 =>
        intro _ _ _ y hy hy0
        rw [ex, ei, x2, i2] at hy
        rw [if_neg (fun z => by omega)] at hy
        exact absurd hy hy0
  have e1 : (i : Int) + 1 = ((i + 1 : Nat) : Int) := by omega
  refine e_X9_movesOf (fun n0 => ?_)
  apply b_X9_movesOf_0
  case c1 => omega
  case c2 => intro _; omega
  case c3 => intro _ _; omega
  case k1 => intro _; rw [e1]; exact LL (L.length - (i + 1)) (i + 1) n0 (by omega) (by omega)
  case k2 => intro _ _; rw [e1]; exact LL (L.length - (i + 1)) (i + 1) n0 (by omega) (by omega)
  case k3 => intro _ q; rw [ei, i2] at q; omega
end MN32
