/-! ===== Reducer: takesMove ===== -/
theorem mem_take' {s : List Int} {n : Nat} {x : Int} (h : x ∈ s.take n) : x ∈ s := List.mem_of_mem_take h
theorem mvT_len {ty : List Int} {L : List nd} {i x : Nat} (hw : WT ty.length L) (hi : i < L.length) (hx : x < L.length) (hm : isM L i x = true) : (mvT ty L i x).length ≤ ty.length ∧ (0 < nZ (ndG L i) → (mvT ty L i x).length < ty.length) := by
  obtain ⟨-, -, b1, b2, b3⟩ := hw.2.1 i hi
  obtain ⟨-, -, c1, c2, c3⟩ := hw.2.1 x hx
  unfold mvT
  simp only [List.length_append, List.length_take, List.length_drop]
  unfold isM at hm
  by_cases h : x = i
  · rw [if_pos h]
    subst h
    omega
  · rw [if_neg h] at hm ⊢
    simp only [Bool.and_eq_true, decide_eq_true_eq] at hm
    omega
theorem mvT_ok {ty : List Int} {L : List nd} {i x : Nat} (hw : WT ty.length L) (hi : i < L.length) (hx : x < L.length) (hm : isM L i x = true) (ho : okS ty) : okS (mvT ty L i x) := by
  refine ⟨Nat.le_trans (mvT_len hw hi hx hm).1 ho.1, fun y hy => ?_⟩
  unfold mvT at hy
  rcases List.mem_append.mp hy with hy | hy
  · rcases List.mem_append.mp hy with hy | hy
    · exact ho.2 y (List.mem_of_mem_take hy)
    · exact ho.2 y (List.mem_of_mem_take (List.mem_of_mem_drop hy))
  · exact ho.2 y (List.mem_of_mem_drop hy)
/-- what the class needs of the grammar's side while texts are tried -/
def XR (M : zM) (g : zG) (ord : Nat → Nat) (n st : Nat) (em : Nat → Bool) (oc : List Int → Int) : Prop := ¬ gi M 8 0 = 0 ∧ XG M g ord n st em ∧ IMx M g ord em ∧ okR M ∧ ocX M = oc
def TFr : List Nat := [1, 2, 5, 6, 7, 19, 20, 21, 22, 23, 32, 33]
theorem XR.fr {S : List Nat} {M M' : zM} {g : zG} {ord : Nat → Nat} {n st : Nat} {em : Nat → Bool} {oc : List Int → Int} (h : XR M g ord n st em oc) (hs : zSm S M M') (hd : ∀ a ∈ S, (a < 8 ∨ 16 < a) ∧ a < 88) (him : IMx M' g ord em) : XR M' g ord n st em oc := by
  obtain ⟨h1, h2, h3, h4, h5⟩ := h
  refine ⟨?_, h2.fr hs (fun a ha => (hd a ha).1), him, h4.same hs.2.1, ?_⟩
  · rw [hs.ge (fun q => by have := (hd 8 q).1; omega)]; exact h1
  · rw [ocX_fr h4 hs (fun a ha => (hd a ha).2), h5]
theorem l_X4_takesMove {B : zB} {n0 : Nat} {K : Int → zM → Prop} {g : zG} {ord : Nat → Nat} {n st : Nat} {em : Nat → Bool} {oc : List Int → Int} {on : Int} (hg : GG g ord n st em) {ty : List Int} (ho : okS ty) {L : List nd} (hw : WT ty.length L) {i : Nat} (hi : i < L.length) : ∀ (m x : Nat) (M : zM) (j : JS), x + m = L.length → XR M g ord n st em oc → TR M L → tT M 1 ty → JX M on j →
    (∀ M', zSm TFr M M' → XR M' g ord n st em oc → tT M' 1 (tmS on oc (prs g ord em st) ty L i m x j).2.1 → okS (tmS on oc (prs g ord em st) ty L i m x j).2.1 → JX M' on (tmS on oc (prs g ord em st) ty L i m x j).2.2 → K (if (tmS on oc (prs g ord em st) ty L i m x j).1 = true then 1 else 0) M') →
    zGi B zy_X4_takesMove 12 0 0 n0 K 25 [some (zR 31), some (zI i), some (zI (nB (ndG L i))), some (zI (nB (ndG L i) + nZ (ndG L i))), some (zI x)] [] M 0 0 := by
  have hol := ho.1
  obtain ⟨-, -, b1, b2, b3⟩ := hw.2.1 i hi
  intro m
  induction m with
  | zero =>
    intro x M j hx hX ht hty hj k
    have e := ht.1
    apply b_X4_takesMove_25 (L := L) (wl := ty.length)
    case k1 => intro _; exact k M zSm.rf hX hty ho hj
    all_goals first | assumption | (intros; omega)
  | succ m ih =>
    intro x M j hx hX ht hty hj k
    have e := ht.1
    have hxL : x < L.length := by omega
    have h60 := ht.2.1
    have skip : (¬ (¬ x = i ∧ nD (ndG L x) ≤ nD (ndG L i))) → ¬ isM L i x = true → zGi B zy_X4_takesMove 12 0 0 n0 K 25 [some (zR 31), some (zI i), some (zI (nB (ndG L i))), some (zI (nB (ndG L i) + nZ (ndG L i))), some (zI ((x : Int) + 1))] [] M 0 0 := fun h1 h2 => by
      refine ih (x + 1) M j (by omega) hX ht hty hj ?_
      unfold tmS at k
      rw [if_neg h1, if_neg (fun q => h2 q.1)] at k
      exact k
    have try1 : (¬ (¬ x = i ∧ nD (ndG L x) ≤ nD (ndG L i))) → isM L i x = true → zCv B zy_X6_putSome 2 0 0 [zR 32, zR 1, zI 0, zI (nB (ndG L i))] (si M 32 1 0) (fun M' => zGi B zy_X4_takesMove 12 0 0 n0 K 84 [some (zR 31), some (zI i), some (zI (nB (ndG L i))), some (zI (nB (ndG L i) + nZ (ndG L i))), some (zI x)] [] M' 0 0) := fun h1 h2 => by
      obtain ⟨-, -, c1, c2, c3⟩ := hw.2.1 x hxL
      have hlen := (mvT_len hw hi hxL h2).1
      have hokm := mvT_ok hw hi hxL h2 ho
      unfold tmS at k
      rw [if_neg h1] at k
      have hf0 : zSm [32, 33] M (si M 32 1 0) := zSm.rf.st (by simp)
      refine m_X6_putSome (s := []) (r := ty) zTx_32 zTx_1 (by omega) ⟨by rw [gi_si_eq, if_pos rfl]; rfl, rfl⟩ (by simp) (hty.fr hf0 (by decide) (by decide)) ho (by omega) (fun M1 f1 g1 => ?_)
      have hf1 := hf0.tr f1
      have ht1 : TR M1 L := ht.same (fun a q1 q2 => hf1.ge (by simp; omega))
      have hat1 := ht1.at hxL
      have t1 : (([] : List Int) ++ (ty.take (nB (ndG L i)).toNat).drop (0 : Int).toNat).take 32 = ty.take (nB (ndG L i)).toNat := by
        rw [List.nil_append, show ((0 : Int)).toNat = 0 from rfl, List.drop_zero, List.take_of_length_le (by rw [List.length_take]; omega)]
      rw [t1] at g1
      have e28 : (if (x : Int) = i then (0 : Int) else gi M1 28 x) = if x = i then 0 else nZ (ndG L x) := by
        rw [hat1.2.2.2.1]
        by_cases h : x = i
        · rw [if_pos h, if_pos (by omega)]
        · rw [if_neg h, if_neg (by omega)]
      have hzx : 0 ≤ (if x = i then (0 : Int) else nZ (ndG L x)) ∧ (if x = i then (0 : Int) else nZ (ndG L x)) ≤ nZ (ndG L x) := by split <;> omega
      apply b_X4_takesMove_84
      case k1 =>
        rw [show (x : Int).toNat = x from rfl, e28, hat1.2.2.1]
        refine m_X6_putSome (s := ty.take (nB (ndG L i)).toNat) (r := ty) zTx_32 zTx_1 (by omega) g1 (by rw [List.length_take]; omega) (hty.fr hf1 (by decide) (by decide)) ho c1 (fun M2 f2 g2 => ?_)
        have hf2 := hf1.tr f2
        refine b_X4_takesMove_136 ?_
        have hty2 := hty.fr hf2 (by decide) (by decide)
        rw [hty2.1]
        have t2 : (ty.take (nB (ndG L i)).toNat ++ (ty.take (nB (ndG L x) + (if x = i then 0 else nZ (ndG L x))).toNat).drop (nB (ndG L x)).toNat).take 32 = ty.take (nB (ndG L i)).toNat ++ (ty.take (nB (ndG L x) + (if x = i then 0 else nZ (ndG L x))).toNat).drop (nB (ndG L x)).toNat := by
          apply List.take_of_length_le
          unfold mvT at hlen
          simp only [List.length_append, List.length_take, List.length_drop] at hlen ⊢
          omega
        rw [t2] at g2
        refine m_X6_putSome (r := ty) zTx_32 zTx_1 (by omega) g2 (by
          unfold mvT at hlen
          simp only [List.length_append, List.length_take, List.length_drop] at hlen ⊢
          omega) hty2 ho (by omega) (fun M3 f3 g3 => ?_)
        have hf3 := hf2.tr f3
        have t3 : (ty.take (nB (ndG L i)).toNat ++ (ty.take (nB (ndG L x) + (if x = i then 0 else nZ (ndG L x))).toNat).drop (nB (ndG L x)).toNat ++ (ty.take ((ty.length : Int)).toNat).drop (nB (ndG L i) + nZ (ndG L i)).toNat).take 32 = mvT ty L i x := by
          rw [show ((ty.length : Int)).toNat = ty.length from rfl, List.take_length]
          exact List.take_of_length_le (Nat.le_trans hlen hol)
        rw [t3] at g3
        obtain ⟨x1, x2, x3, x4, x5⟩ := hX
        refine b_X4_takesMove_155 ?_
        refine m_X3_fits (s := mvT ty L i x) zTx_32 (by omega) (by omega) (by rw [hf3.ge (by decide)]; exact x1) (x2.fr hf3 (by simp)).1 hg.1 hg.2.2.1 hg.2.2.2.1 hg.2.2.2.2.1 (x2.fr hf3 (by simp)).2 (x3.same (fun a q1 q2 => hf3.ge (by simp; omega))) g3 hokm (fun M4 f4 g4 g5 => ?_)
        have hf4 : zSm TFr M M4 := (hf3.mono (by simp [TFr])).tr (f4.mono (by simp [TFr]))
        have hX4 : XR M4 g ord n st em oc := XR.fr ⟨x1, x2, x3, x4, x5⟩ hf4 (by decide) (g4.imx hokm)
        have ht4 : TR M4 L := ht1.same (fun a q1 q2 => by rw [f4.ge (by simp; omega), f3.ge (by simp; omega), f2.ge (by simp; omega)])
        have hty4 : tT M4 1 ty := (hty.fr hf3 (by decide) (by decide)).fr f4 (by decide) (by decide)
        have hj4 : JX M4 on j := (hj.fr hf3 (by decide) (by decide) (by decide)).fr f4 (by decide) (by decide) (by decide)
        have hps := g4.prs hg hokm
        by_cases hp : eT M4 st (mvT ty L i x).length = 0 ∧ bT M4 st (mvT ty L i x).length < 60
        · have hsome : (prs g ord em st (mvT ty L i x)).isSome = true := by rw [(hps.1 hp).1]; rfl
          rw [if_pos ⟨h2, hsome⟩] at k
          rw [if_pos hp]
          apply b_X4_takesMove_166
          case k1 => intro q; exact absurd q (by decide)
          case k2 =>
            intro _
            refine m_X1_ask zTx_32 (by omega) (j := j) (oc := oc) (on := on) hX4.2.2.2.1 hX4.2.2.2.2 (g3.fr f4 (by decide) (by decide)) hokm hj4 (fun M5 f5 g6 => ?_)
            have hf5 : zSm TFr M M5 := hf4.tr (f5.mono (by simp [TFr]))
            have hX5 : XR M5 g ord n st em oc := hX4.fr f5 (by decide) (hX4.2.2.1.same (fun a q1 q2 => f5.ge (by simp; omega)))
            apply b_X4_takesMove_180
            case k1 =>
              intro q
              rw [if_neg q] at k
              exact ih (x + 1) M5 _ (by omega) hX5 (ht4.same (fun a q1 q2 => f5.ge (by simp; omega))) (hty4.fr f5 (by decide) (by decide)) g6 (fun M' a1 a2 a3 a4 a5 => k M' (hf5.tr a1) a2 a3 a4 a5)
            case k2 =>
              intro q
              rw [if_pos q] at k
              refine m_X6_become zTx_1 zTx_32 (by omega) ((g3.fr f4 (by decide) (by decide)).fr f5 (by decide) (by decide)) hokm (fun M6 f6 g7 => b_X4_takesMove_195 ?_)
              exact k M6 (hf5.tr (f6.mono (by simp [TFr]))) (hX5.fr f6 (by decide) (hX5.2.2.1.same (fun a q1 q2 => f6.ge (by simp; omega)))) g7 hokm (g6.fr f6 (by decide) (by decide) (by decide))
            all_goals (intros; omega)
          all_goals (intros; omega)
        · have hnone : ¬ (prs g ord em st (mvT ty L i x)).isSome = true := by rw [hps.2 hp]; decide
          rw [if_neg (fun q => hnone q.2)] at k
          rw [if_neg hp]
          apply b_X4_takesMove_166
          case k1 =>
            intro _
            exact ih (x + 1) M4 j (by omega) hX4 ht4 hty4 hj4 (fun M' a1 a2 a3 a4 a5 => k M' (hf4.tr a1) a2 a3 a4 a5)
          case k2 => intro q; exact absurd rfl q
          all_goals (intros; omega)
      all_goals first | omega | (rw [show (x : Int).toNat = x from rfl, e28, hat1.2.2.1]; omega)
    apply b_X4_takesMove_25 (L := L) (wl := ty.length)
    case k1 => intro _; omega
    case k2 => intro _ h1 h2; exact skip (fun q => q.1 (by omega)) h2
    case k3 => intro _ h1 h2; exact try1 (fun q => q.1 (by omega)) h2
    case k4 =>
      intro _ h1 h2
      unfold tmS at k
      rw [if_pos ⟨by omega, by have h3 : ¬ nD (ndG L i) < nD (ndG L x) := h2; omega⟩] at k
      exact k M zSm.rf hX hty ho hj
    case k5 => intro _ h1 h2 h3; exact skip (fun q => by have h4 : nD (ndG L i) < nD (ndG L x) := h2; omega) h3
    case k6 => intro _ h1 h2 h3; exact try1 (fun q => by have h4 : nD (ndG L i) < nD (ndG L x) := h2; omega) h3
    all_goals first | assumption | (intros; omega)
theorem m_X4_takesMove {B : zB} {K : Int → zM → Prop} {M : zM} {g : zG} {ord : Nat → Nat} {n st : Nat} {em : Nat → Bool} {oc : List Int → Int} {on : Int} (hg : GG g ord n st em) {ty : List Int} (ho : okS ty) {L : List nd} (hw : WT ty.length L) {i : Nat} (hi : i < L.length) {j : JS} (hX : XR M g ord n st em oc) (ht : TR M L) (hty : tT M 1 ty) (hj : JX M on j)
    (k : ∀ M', zSm TFr M M' → XR M' g ord n st em oc → tT M' 1 (tmS on oc (prs g ord em st) ty L i (L.length - i) i j).2.1 → okS (tmS on oc (prs g ord em st) ty L i (L.length - i) i j).2.1 → JX M' on (tmS on oc (prs g ord em st) ty L i (L.length - i) i j).2.2 → K (if (tmS on oc (prs g ord em st) ty L i (L.length - i) i j).1 = true then 1 else 0) M') : zCi B zy_X4_takesMove 12 0 0 [zR 31, zI i] M K := by
  have hat := ht.at hi
  have h60 := ht.2.1
  have hol := ho.1
  obtain ⟨-, -, b1, b2, b3⟩ := hw.2.1 i hi
  refine e_X4_takesMove (fun n0 => ?_)
  apply b_X4_takesMove_0
  case k1 =>
    rw [show (i : Int).toNat = i from rfl, hat.2.2.1, hat.2.2.2.1]
    exact l_X4_takesMove hg ho hw hi (L.length - i) i M j (by omega) hX ht hty hj k
  all_goals first | omega | (rw [show (i : Int).toNat = i from rfl, hat.2.2.1, hat.2.2.2.1]; omega)
