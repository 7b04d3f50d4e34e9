/-! ===== terms hold: the model ===== -/
section NE
variable {B : zB} {K : Int → zM → Prop} {Kv : zM → Prop} {M : zM}
def bI (b : Bool) : Int := if b = true then 1 else 0
theorem bI_01 (b : Bool) : bI b = 0 ∨ bI b = 1 := by cases b <;> simp [bI]
theorem bI_ne {b : Bool} : ¬ bI b = 0 ↔ b = true := by cases b <;> simp [bI]
theorem bI_or {P Q : Prop} [Decidable P] [Decidable Q] {b : Bool} (h : (P ∨ Q) ↔ b = true) : (if P ∨ Q then (1 : Int) else 0) = bI b := by
  unfold bI
  exact zifc h
theorem prF_near {c d : Int} {s : List Int} {i : Nat} (h : i ≤ s.length) : (prF c d true (s.take i)).2 = true ↔ 0 < i ∧ s.getD (i - 1) 0 = c := by
  cases i with
  | zero => simp [prF]
  | succ i =>
    rw [prF_take (by omega)]
    simp [prS]
theorem m_X9_holdsStep {a : Nat} (h_a : zkd a = .inl (0, 32)) {s : List Int} (hz : zA M a s) (hl : s.length ≤ 32) {q : Nat} (hq : q < 512) {p : st3} (hp : gi M 50 q = p.1 ∧ (p.1 < 5 → gi M 51 q = p.2.1 ∧ gi M 52 q = p.2.2)) (hk : 0 ≤ p.1 ∧ p.1 < 5) (k : K (bI (atP p s)) M) : zCi B zy_X9_holdsStep 1 0 0 [zR 45, zI (q : Int), zR a, zI (s.length : Int)] M K := by
  obtain ⟨hp0, hp1⟩ := hp
  obtain ⟨hp2, hp3⟩ := hp1 hk.2
  have eq : ((q : Int)).toNat = q := rfl
  have L : ∀ (d i n0 : Nat), i + d = s.length → zGi B zy_X9_holdsStep 1 0 0 n0 K 31 [some (zR 45), some (zI (q : Int)), some (zR a), some (zI (s.length : Int)), some (zI p.2.1), some (zI p.2.2), some (zI (cntL p.2.1 (s.take i))), some (zI (bI (prF p.2.1 p.2.2 false (s.take i)).1)), some (zI (bI (prF p.2.1 p.2.2 true (s.take i)).1)), some (zI (bI (prF p.2.1 p.2.2 false (s.take i)).2)), some (zI (i : Int))] [] M 0 0 := by
    intro d
    induction d with
    | zero =>
      intro i n0 hi
      have et : s.take i = s := List.take_of_length_le (by omega)
      rw [et]
      unfold atP at k
      apply b_X9_holdsStep_31 h_a
      case k1 =>
        intro _ q1
        rw [eq, hp0] at q1
        rw [if_neg (by omega), if_neg (by omega), if_neg (by omega), if_neg (by omega)] at k
        unfold bI at k
        rw [zifc (Q := decide ((s.length : Int) % 2 = 0) = true) (by simp)]
        exact k
      case k2 =>
        intro _ q1
        rw [eq, hp0] at q1
        rw [if_pos q1] at k
        unfold bI at k
        rw [zifc (Q := decide (p.2.2 ≤ cntL p.2.1 s) = true) (by simp)]
        exact k
      case k3 =>
        intro _ q1
        rw [eq, hp0] at q1
        rw [if_neg (by omega), if_pos q1] at k
        exact k
      case k4 =>
        intro _ q1
        rw [eq, hp0] at q1
        rw [if_neg (by omega), if_neg (by omega), if_pos q1] at k
        exact k
      case k5 =>
        intro _ q1
        rw [eq, hp0] at q1
        rw [if_neg (by omega), if_neg (by omega), if_neg (by omega), if_pos q1] at k
        unfold bI at k
        rw [zifc (Q := decide (p.2.1 ≤ (s.length : Int)) = true) (by simp)]
        exact k
      case c3 => intros; exact bI_01 _
      case c4 => intros; exact bI_01 _
      all_goals (intros; omega)
    | succ d ih =>
      intro i n0 hi
      have ei : ((i : Int)).toNat = i := rfl
      have gi1 : gi M a i = s.getD i 0 := hz.get (by omega)
      have cb := cntL_bd (c := p.2.1) (s := s) i (by omega)
      apply b_X9_holdsStep_31 h_a
      case k6 =>
        intro _ y hy
        have h6 : cntL p.2.1 (s.take i) + (if gi M a i = p.2.1 then 1 else 0) = cntL p.2.1 (s.take (i + 1)) := by
          rw [cntL_take (by omega), gi1]
          split <;> omega
        have h7 : (if (¬ bI (prF p.2.1 p.2.2 false (s.take i)).1 = 0) ∨ ((¬ bI (prF p.2.1 p.2.2 false (s.take i)).2 = 0) ∧ gi M a i = p.2.2) then (1 : Int) else 0) = bI (prF p.2.1 p.2.2 false (s.take (i + 1))).1 := by
          apply bI_or
          rw [prF_take (by omega), bI_ne, bI_ne, gi1]
          simp [prS]
        have h9 : (if (¬ bI (prF p.2.1 p.2.2 false (s.take i)).2 = 0) ∨ gi M a i = p.2.1 then (1 : Int) else 0) = bI (prF p.2.1 p.2.2 false (s.take (i + 1))).2 := by
          apply bI_or
          rw [prF_take (by omega), bI_ne, gi1]
          simp [prS]
          exact Or.comm
        have h8 : y = bI (prF p.2.1 p.2.2 true (s.take (i + 1))).1 := by
          rw [hy]
          apply bI_or
          rw [prF_take (by omega), bI_ne, ei, gi1]
          have hn := prF_near (c := p.2.1) (d := p.2.2) (s := s) (i := i) (by omega)
          show _ ↔ ((prF p.2.1 p.2.2 true (s.take i)).1 || ((prF p.2.1 p.2.2 true (s.take i)).2 && decide (s.getD i 0 = p.2.2))) = true
          rw [Bool.or_eq_true, Bool.and_eq_true, hn, decide_eq_true_eq]
          constructor
          · rintro (z | ⟨z1, z2, z3⟩)
            · exact Or.inl z
            · rw [(by omega : ((i : Int) - 1).toNat = i - 1), hz.get (by omega)] at z2
              exact Or.inr ⟨⟨by omega, z2⟩, z3⟩
          · rintro (z | ⟨⟨z1, z2⟩, z3⟩)
            · exact Or.inl z
            · refine Or.inr ⟨by omega, ?_, z3⟩
              rw [(by omega : ((i : Int) - 1).toNat = i - 1), hz.get (by omega)]
              exact z2
        rw [ei, h6, h7, h8, h9]
        exact ih (i + 1) n0 (by omega)
      all_goals (intros; first | omega | (split <;> omega))
  refine e_X9_holdsStep (fun n0 => ?_)
  apply b_X9_holdsStep_0 h_a
  case k1 =>
    rw [eq, hp2, hp3]
    exact L s.length 0 n0 (by omega)
  case c1 => omega
/-- working off a row of steps -/
def HLD (B : zB) (K : Int → zM → Prop) (a : Nat) (s : List Int) (i : Nat) (P : List st3) : Prop := ∀ (o t n0 : Nat) (M : zM) (N : Nat), zA M a s → a ≠ 53 → gi M 48 i = (N : Int) → N ≤ 63 → o + P.length ≤ N → t + P.length ≤ 63 → (∀ (k : Nat) (p : st3), P[k]? = some p → gi M 50 (64 * i + o + k) = p.1 ∧ (p.1 < 5 → gi M 51 (64 * i + o + k) = p.2.1 ∧ gi M 52 (64 * i + o + k) = p.2.2)) →
    (∀ M', zSm [53] M M' → gi M' 53 t = bI (evT P s) → (∀ q, q < t → gi M' 53 q = gi M 53 q) → zGi B zy_X9_holds 2 0 0 n0 K 9 [some (zR 45), some (zI (i : Int)), some (zR a), some (zI (s.length : Int)), some (zI ((t + 1 : Nat) : Int)), some (zI ((64 * i + o + P.length : Nat) : Int)), none] [] M' 0 0) →
    zGi B zy_X9_holds 2 0 0 n0 K 9 [some (zR 45), some (zI (i : Int)), some (zR a), some (zI (s.length : Int)), some (zI (t : Int)), some (zI ((64 * i + o : Nat) : Int)), none] [] M 0 0
theorem evT_of {P : List st3} {s : List Int} {b : Bool} (h : ∀ q, evP P s q = b :: q) : evT P s = b := by
  unfold evT
  rw [h]
  rfl
theorem TPf.ev {P : List st3} (h : TPf P) (s : List Int) : ∀ q, evP P s q = evT P s :: q := by
  refine h (fun P => ∀ q, evP P s q = evT P s :: q) ?_ ?_ ?_
  · intro p h1 h2
    have : ∀ q, evP [p] s q = atP p s :: q := fun q => by
      show stP s q p = _
      unfold stP
      rw [if_pos h2]
    intro q
    rw [evT_of this, this]
  · intro P ih
    have : ∀ q, evP (P ++ [(5, 0, 0)]) s q = (!evT P s) :: q := fun q => by
      rw [evP_app, ih]
      simp [evP, stP]
    intro q
    rw [evT_of this, this]
  · intro P Q k hk ih1 ih2
    have : ∀ q, evP (P ++ Q ++ [(k, 0, 0)]) s q = (if k = 6 then evT P s && evT Q s else evT P s || evT Q s) :: q := fun q => by
      rw [evP_app, evP_app, ih1, ih2]
      rcases hk with z | z <;> simp [evP, stP, z]
    intro q
    rw [evT_of this, this]
theorem evT_leaf {p : st3} (h : p.1 < 5) (s : List Int) : evT [p] s = atP p s := evT_of (fun q => by
  show stP s q p = _
  unfold stP
  rw [if_pos h])
theorem evT_no {P : List st3} (h : TPf P) (s : List Int) : evT (P ++ [(5, 0, 0)]) s = !evT P s := evT_of (fun q => by
  rw [evP_app, h.ev]
  simp [evP, stP])
theorem evT_jn {P Q : List st3} {k : Int} (hk : k = 6 ∨ k = 7) (h : TPf P) (h' : TPf Q) (s : List Int) : evT (P ++ Q ++ [(k, 0, 0)]) s = (if k = 6 then evT P s && evT Q s else evT P s || evT Q s) := evT_of (fun q => by
  rw [evP_app, evP_app, h.ev, h'.ev]
  rcases hk with z | z <;> simp [evP, stP, z])
theorem l_X9_holds {a : Nat} (h_a : zkd a = .inl (0, 32)) {s : List Int} (hl : s.length ≤ 32) {i : Nat} (hi : i < 8) {P : List st3} (hT : TPf P) : TPf P ∧ HLD B K a s i P := by
  refine hT (fun P => TPf P ∧ HLD B K a s i P) ?_ ?_ ?_
  · intro p hp1 hp2
    refine ⟨TPf.leaf hp1 hp2, ?_⟩
    intro o t n0 M N hz ha hN hN2 ho ht hr k
    have r0 := hr 0 p rfl
    rw [Nat.add_zero] at r0
    have l1 : ([p] : List st3).length = 1 := rfl
    rw [l1] at ho ht k
    have ei : ((i : Int)).toNat = i := rfl
    have eo : (((64 * i + o : Nat) : Int)).toNat = 64 * i + o := rfl
    apply b_X9_holds_9 h_a
    case k4 =>
      intro _ _
      refine m_X9_holdsStep h_a hz hl (by omega) r0 ⟨hp1, hp2⟩ ?_
      apply b_X9_holds_54 h_a
      case k1 =>
        have := k (si M 53 t (bI (evT [p] s))) (zSm.rf.st (by decide)) (by rw [gi_si_eq, if_pos rfl]) (fun q hq => by rw [gi_si_eq, if_neg (by omega)])
        rw [evT_leaf hp2] at this
        exact this
      case c2 => exact bI_01 _
      all_goals omega
    case k1 => intro q; rw [ei, hN] at q; omega
    case k2 => intro _ q; rw [eo, r0.1] at q; omega
    case k3 => intro _ q; rw [eo, r0.1] at q; omega
    all_goals (intros; first | omega | (rw [ei, hN] at *; omega) | (rw [eo, r0.1] at *; omega) | (rw [eo] at *; rw [r0.1] at *; omega))
  · intro P hP
    obtain ⟨hT, ih⟩ := hP
    refine ⟨hT.no, ?_⟩
    intro o t n0 M N hz ha hN hN2 ho ht hr k
    have pl := hT.pos
    rw [List.length_append, List.length_singleton] at ho ht k
    refine ih o t n0 M N hz ha hN hN2 (by omega) (by omega) (fun k' p hp => hr k' p (by rw [List.getElem?_append_left (List.getElem?_eq_some_iff.mp hp).1]; exact hp)) (fun M1 f1 v1 o1 => ?_)
    have r0 := (hr P.length (5, 0, 0) (by rw [List.getElem?_append_right (Nat.le_refl _), Nat.sub_self]; rfl)).1
    rw [← f1.ge (a := 50) (by decide)] at r0
    have hN' : gi M1 48 i = (N : Int) := by rw [f1.ge (by decide)]; exact hN
    have ei : ((i : Int)).toNat = i := rfl
    have eo : (((64 * i + o + P.length : Nat) : Int)).toNat = 64 * i + o + P.length := rfl
    have et : (((t + 1 : Nat) : Int) - 1).toNat = t := by omega
    apply b_X9_holds_9 h_a
    case k3 =>
      intro _ _ _
      rw [et, v1]
      have e2 : (((64 * i + o + P.length : Nat) : Int) + 1) = ((64 * i + o + (P.length + 1) : Nat) : Int) := by omega
      rw [e2]
      refine k _ (f1.st (by decide)) ?_ (fun q hq => by rw [gi_si_eq, if_neg (by omega)]; exact o1 q hq)
      rw [gi_si_eq, if_pos rfl, evT_no hT]
      cases evT P s <;> simp [bI]
    case k1 => intro q; rw [ei, hN'] at q; omega
    case k2 => intro _ _ q; rw [eo, r0] at q; exact absurd rfl q
    case k4 => intro _ q; rw [eo, r0] at q; exact absurd q (by decide)
    case c5 => intro _ _ q; rw [eo, r0] at q; exact absurd rfl q
    case c6 => intro _ _ q; rw [eo, r0] at q; exact absurd rfl q
    case c7 => intro _ _ q; rw [eo, r0] at q; exact absurd rfl q
    case c8 => intro _ _ q; rw [eo, r0] at q; exact absurd rfl q
    case c9 => intro _ _ q; rw [eo, r0] at q; exact absurd rfl q
    case c10 => intro _ _ q; rw [eo, r0] at q; exact absurd rfl q
    case c11 => intro _ _ q; rw [eo, r0] at q; exact absurd rfl q
    case c12 => intro _ _ q; rw [eo, r0] at q; exact absurd rfl q
    case c13 => intro _ _ q; rw [eo, r0] at q; exact absurd rfl q
    all_goals (intros; first | omega | (rw [ei, hN']; omega))
  · intro P Q kk hk hP hQ
    obtain ⟨hT1, ih1⟩ := hP
    obtain ⟨hT2, ih2⟩ := hQ
    refine ⟨hT1.jn hk hT2, ?_⟩
    intro o t n0 M N hz ha hN hN2 ho ht hr k
    have pl := hT1.pos
    have ql := hT2.pos
    rw [List.length_append, List.length_append, List.length_singleton] at ho ht k
    have get1 : ∀ (k' : Nat) (p : st3), P[k']? = some p → (P ++ Q ++ [(kk, 0, 0)])[k']? = some p := fun k' p hp => by
      have := (List.getElem?_eq_some_iff.mp hp).1
      rw [List.getElem?_append_left (by rw [List.length_append]; omega), List.getElem?_append_left this]
      exact hp
    have get2 : ∀ (k' : Nat) (p : st3), Q[k']? = some p → (P ++ Q ++ [(kk, 0, 0)])[P.length + k']? = some p := fun k' p hp => by
      have := (List.getElem?_eq_some_iff.mp hp).1
      rw [List.getElem?_append_left (by rw [List.length_append]; omega), List.getElem?_append_right (by omega), Nat.add_sub_cancel_left]
      exact hp
    refine ih1 o t n0 M N hz ha hN hN2 (by omega) (by omega) (fun k' p hp => hr k' p (get1 k' p hp)) (fun M1 f1 v1 o1 => ?_)
    have hN1 : gi M1 48 i = (N : Int) := by rw [f1.ge (by decide)]; exact hN
    have ea : 64 * i + (o + P.length) = 64 * i + o + P.length := by omega
    have step2 := ih2 (o + P.length) (t + 1) n0 M1 N (hz.same (f1.ge (by simp [ha]))) ha hN1 hN2 (by omega) (by omega) (fun k' p hp => by
      have := hr _ p (get2 k' p hp)
      rw [f1.ge (a := 50) (by decide), f1.ge (a := 51) (by decide), f1.ge (a := 52) (by decide), (by omega : 64 * i + (o + P.length) + k' = 64 * i + o + (P.length + k'))]
      exact this)
    rw [ea] at step2
    refine step2 (fun M2 f2 v2 o2 => ?_)
    have r0 := (hr (P.length + Q.length) (kk, 0, 0) (by rw [List.getElem?_append_right (by rw [List.length_append]; exact Nat.le_refl _), List.length_append, Nat.sub_self]; rfl)).1
    have f12 := f1.tr f2
    rw [← f12.ge (a := 50) (by decide)] at r0
    have hN' : gi M2 48 i = (N : Int) := by rw [f12.ge (by decide)]; exact hN
    have ei : ((i : Int)).toNat = i := rfl
    have eo : (((64 * i + o + P.length + Q.length : Nat) : Int)).toNat = 64 * i + o + (P.length + Q.length) := by omega
    have et : (((t + 1 + 1 : Nat) : Int) + (-1)).toNat = t + 1 := by omega
    have et2 : (((t + 1 + 1 : Nat) : Int) + (-1) - 1).toNat = t := by omega
    have v1' : gi M2 53 t = bI (evT P s) := (o2 t (by omega)).trans v1
    apply b_X9_holds_9 h_a
    case k2 =>
      intro _ _ _ y hy
      rw [eo, r0, et, et2, v1', v2] at hy
      have e2 : (((64 * i + o + P.length + Q.length : Nat) : Int) + 1) = ((64 * i + o + (P.length + Q.length + 1) : Nat) : Int) := by omega
      rw [et2, e2, (by omega : (((t + 1 + 1 : Nat) : Int) + (-1)) = ((t + 1 : Nat) : Int))]
      refine k _ (f12.st (by decide)) ?_ (fun q hq => by rw [gi_si_eq, if_neg (by omega)]; exact (o2 q (by omega)).trans (o1 q hq))
      rw [gi_si_eq, if_pos rfl, evT_jn hk hT1 hT2, hy]
      dsimp only
      rcases hk with z | z
      · rw [z]
        cases evT P s <;> cases evT Q s <;> simp [bI]
      · rw [z]
        cases evT P s <;> cases evT Q s <;> simp [bI]
    case k1 => intro q; rw [ei, hN'] at q; omega
    case k3 => intro _ _ q; rw [eo, r0] at q; have q2 : kk = 5 := q; omega
    case k4 => intro _ q; rw [eo, r0] at q; have q2 : kk < 5 := q; omega
    case c12 =>
      intro _ _ _ y hy
      rw [hy]
      split
      · exact Or.inr rfl
      · exact Or.inl rfl
    all_goals (intros; first | omega | (rw [ei, hN']; omega))
theorem m_X9_holds {a : Nat} (h_a : zkd a = .inl (0, 32)) (ha : a ≠ 53) {s : List Int} (hz : zA M a s) (hl : s.length ≤ 32) {i : Nat} (hi : i < 8) {P : List st3} (hr : rowM M i P) (hP : okMk P) (k : ∀ M', zSm [53] M M' → K (bI (evT P s)) M') : zCi B zy_X9_holds 2 0 0 [zR 45, zI (i : Int), zR a, zI (s.length : Int)] M K := by
  have ei : ((i : Int)).toNat = i := rfl
  refine e_X9_holds (fun n0 => ?_)
  apply b_X9_holds_0 h_a
  case c1 => omega
  have e0 : (64 * (i : Int)) = ((64 * i + 0 : Nat) : Int) := by omega
  rw [e0]
  rcases hP with z | ⟨z, z2⟩
  · have h48 := hr.1
    rw [z] at h48 k
    have h48' : gi M 48 i = 0 := h48
    apply b_X9_holds_9 h_a
    case k1 =>
      intro _
      rw [if_neg (fun z => by have := z.1; omega)]
      exact k M zSm.rf
    case k2 => intro q; rw [ei, h48'] at q; omega
    case k3 => intro q; rw [ei, h48'] at q; omega
    case k4 => intro q; rw [ei, h48'] at q; omega
    all_goals (intros; first | omega | (rw [ei, h48'] at *; omega))
  · have := (l_X9_holds (B := B) (K := K) h_a hl hi z).2
    refine this 0 0 n0 M P.length hz ha hr.1 z2 (by omega) (by omega) hr.2 (fun M1 f1 v1 o1 => ?_)
    have hN' : gi M1 48 i = (P.length : Int) := by rw [f1.ge (by decide)]; exact hr.1
    apply b_X9_holds_9 h_a
    case k1 =>
      intro _
      have e : (if 0 < ((0 + 1 : Nat) : Int) ∧ (¬ gi M1 53 0 = 0) then (1 : Int) else 0) = bI (evT P s) := by
        rw [v1]
        cases evT P s <;> simp [bI]
      rw [e]
      exact k M1 f1
    case k2 => intro q; rw [ei, hN'] at q; omega
    case k3 => intro q; rw [ei, hN'] at q; omega
    case k4 => intro q; rw [ei, hN'] at q; omega
    all_goals (intros; first | omega | (rw [ei, hN'] at *; omega))
theorem m_X9_outcomeOf {a : Nat} (h_a : zkd a = .inl (0, 32)) (ha : a ≠ 53) {s : List Int} (hz : zA M a s) (hl : s.length ≤ 32) {w u : List st3} (hw : rowM M 6 w ∧ okMk w) (hu : rowM M 7 u ∧ okMk u) (k : ∀ M', zSm [53] M M' → K (ocA w u s) M') : zCi B zy_X9_outcomeOf 3 0 0 [zR 45, zR a, zI (s.length : Int)] M K := by
  refine e_X9_outcomeOf (fun n0 => ?_)
  apply b_X9_outcomeOf_0 h_a
  refine m_X9_holds (i := 6) h_a ha hz hl (by decide) hw.1 hw.2 (fun M1 f1 => ?_)
  apply b_X9_outcomeOf_8 h_a
  case k2 =>
    intro q
    rw [bI_ne] at q
    have := k M1 f1
    unfold ocA at this
    rw [if_pos q] at this
    exact this
  case k1 =>
    intro q
    have q' : ¬ evT w s = true := fun z => (bI_ne.mpr z) q
    refine m_X9_holds (i := 7) h_a ha (hz.same (f1.ge (by simp [ha]))) hl (by decide) (hu.1.same (f1.ge (by decide)) (f1.ge (by decide)) (f1.ge (by decide)) (f1.ge (by decide))) hu.2 (fun M2 f2 => ?_)
    apply b_X9_outcomeOf_23 h_a
    have := k M2 (f1.tr f2)
    unfold ocA at this
    rw [if_neg q'] at this
    by_cases z : evT u s = true
    · rw [if_pos z] at this
      rw [if_neg (bI_ne.mpr z)]
      exact this
    · rw [if_neg z] at this
      rw [if_pos (by
        by_cases y : bI (evT u s) = 0
        · exact y
        · exact absurd (bI_ne.mp y) z)]
      exact this
end NE
