/-! ===== remembered texts: the model ===== -/
theorem eq_getD {a b : List Int} (hl : a.length = b.length) (h : ∀ x, x < a.length → a.getD x 0 = b.getD x 0) : a = b := by
  apply List.ext_getElem hl
  intro i h1 h2
  have := h i h1
  simpa [List.getD, h1, h2] using this
/-- the text that is asked for -/
def akM (M : zM) (a : List Int) : Prop := gi M 45 49 = (a.length : Int) ∧ zA M 77 a
section MN23
variable {B : zB} {K : Int → zM → Prop} {Kv : zM → Prop} {M : zM} {R : List (List Int)} {a : List Int}
theorem m_X9_isKnown {i : Nat} {t : List Int} (hk : knM M R) (hi : R[i]? = some t) (ha : akM M a) (hl : a.length ≤ 32) (kk : K (if t = a then 1 else 0) M) : zCi B zy_X9_isKnown 1 0 0 [zR 45, zI (i : Int)] M K := by
  obtain ⟨k1, k2, k3⟩ := hk
  obtain ⟨t1, t2, t3⟩ := k3 i t hi
  obtain ⟨a1, a2⟩ := ha
  have hi24 : i < 24 := by
    have := (List.getElem?_eq_some_iff.mp hi).1
    omega
  have ei : ((i : Int)).toNat = i := rfl
  have L : ∀ (d q n0 : Nat) (v : Int), q + d = a.length → (v = 0 ∨ v = 1) → (v = 1 → t.length = a.length ∧ ∀ x, x < q → t.getD x 0 = a.getD x 0) → (v = 0 → ¬ t = a) → zGi B zy_X9_isKnown 1 0 0 n0 K 21 [some (zR 45), some (zI (i : Int)), some (zI v), some (zI (q : Int))] [] M 0 0 := by
    intro d
    induction d with
    | zero =>
      intro q n0 v hq hv h1 h0
      apply b_X9_isKnown_21
      case k1 =>
        intro _
        rcases hv with z | z
        · rw [if_neg (h0 z)] at kk
          rw [z]
          exact kk
        · have hh := h1 z
          rw [if_pos (eq_getD hh.1 (fun x hx => hh.2 x (by omega)))] at kk
          rw [z]
          exact kk
      all_goals (intros; first | assumption | omega)
    | succ d ih =>
      intro q n0 v hq hv h1 h0
      have eq : ((q : Int)).toNat = q := rfl
      apply b_X9_isKnown_21
      case k1 => intro z; omega
      case k2 =>
        intro _ z
        rw [if_neg (h0 z)] at kk
        rw [z]
        exact kk
      case k3 =>
        intro _ z
        have hh := h1 (by omega)
        have e1 : gi M 76 (32 * (i : Int) + (q : Int)).toNat = t.getD q 0 := by
          rw [(by omega : (32 * (i : Int) + (q : Int)).toNat = 32 * i + q)]
          exact t3 q (by omega)
        have e2 : gi M 77 q = a.getD q 0 := a2.get (by omega)
        rw [eq, e1, e2]
        refine ih (q + 1) n0 _ (by omega) (by split <;> simp) (fun w => ⟨hh.1, fun x hx => ?_⟩) (fun w => ?_)
        · by_cases y : x = q
          · rw [y]
            by_cases c : t.getD q 0 = a.getD q 0
            · exact c
            · rw [if_neg c] at w; omega
          · exact hh.2 x (by omega)
        · intro c
          rw [c, if_pos rfl] at w
          omega
      all_goals (intros; first | assumption | omega)
  refine e_X9_isKnown (fun n0 => ?_)
  apply b_X9_isKnown_0
  case c1 => omega
  case k1 =>
    rw [ei, t1, a1]
    refine L a.length 0 n0 _ (by omega) (by split <;> simp) (fun w => ⟨?_, fun x hx => by omega⟩) (fun w => ?_)
    · by_cases c : (t.length : Int) = (a.length : Int)
      · omega
      · rw [if_neg c] at w; omega
    · intro c
      rw [c, if_pos rfl] at w
      omega
/-- rows of texts -/
def knR (M : zM) (R : List (List Int)) : Prop := ∀ (i : Nat) (s : List Int), R[i]? = some s → gi M 75 i = (s.length : Int) ∧ s.length ≤ 32 ∧ ∀ k, k < s.length → gi M 76 (32 * i + k) = s.getD k 0
theorem l_X9_keep_97 (hl : a.length ≤ 32) (hr : R.length < 24) (hR : knR M R) (h40 : gi M 45 40 = (R.length : Int)) (h75 : gi M 75 R.length = (a.length : Int)) (ha : akM M a) {n0 : Nat} (kk : ∀ M', zSm [45, 76] M M' → (∀ q, q ≠ 40 → gi M' 45 q = gi M 45 q) → knM M' (R ++ [a]) → Kv M') :
    ∀ (d v : Nat) (M1 : zM), v + d = a.length → zSm [76] M M1 → (∀ x, gi M1 76 x = if 32 * R.length ≤ x ∧ x < 32 * R.length + v then a.getD (x - 32 * R.length) 0 else gi M 76 x) → zGv B zy_X9_keep 1 0 0 n0 Kv 97 [some (zR 45), some (zI (v : Int)), none] [] M1 0 0 := by
  intro d
  induction d with
  | zero =>
    intro v M1 hv f h
    have e45 : gi M1 45 = gi M 45 := f.ge (by decide)
    apply b_X9_keep_97
    case k1 =>
      intro _
      rw [e45, h40]
      refine kk _ ((f.mono (by decide)).st (by decide)) (fun q hq => by rw [gi_si_eq, if_neg hq, e45]) ⟨?_, ?_, fun i s hs => ?_⟩
      · rw [gi_si_eq, if_pos rfl, List.length_append]; rfl
      · rw [List.length_append, List.length_singleton]; omega
      · rw [gi_si_ne (by decide), gi_si_ne (by decide), f.ge (by decide)]
        by_cases z : i = R.length
        · rw [z, List.getElem?_append_right (Nat.le_refl _), Nat.sub_self] at hs
          have e : s = a := (Option.some.inj hs).symm
          rw [e, z]
          refine ⟨h75, hl, fun k hk => ?_⟩
          rw [h, if_pos (by omega)]
          congr 1
          omega
        · have hi : i < R.length := by
            have := (List.getElem?_eq_some_iff.mp hs).1
            rw [List.length_append, List.length_singleton] at this
            omega
          rw [List.getElem?_append_left hi] at hs
          obtain ⟨r1, r2, r3⟩ := hR i s hs
          refine ⟨r1, r2, fun k hk => ?_⟩
          rw [h, if_neg (by omega)]
          exact r3 k hk
    case k2 => intro q; rw [e45, ha.1] at q; omega
    case c1 => intro _; rw [e45, h40]; omega
    all_goals (intro q; rw [e45, ha.1] at q; omega)
  | succ d ih =>
    intro v M1 hv f h
    have e45 : gi M1 45 = gi M 45 := f.ge (by decide)
    have ev : ((v : Int)).toNat = v := rfl
    apply b_X9_keep_97
    case k1 => intro q; rw [e45, ha.1] at q; omega
    case c1 => intro q; rw [e45, ha.1] at q; omega
    case k2 =>
      intro _
      have e1 : (32 * (R.length : Int) + (v : Int)).toNat = 32 * R.length + v := by omega
      rw [e45, h40, e1, ev, f.ge (by decide : (77 : Nat) ∉ [76]), ha.2.get (by omega)]
      refine ih (v + 1) _ (by omega) (f.st (by decide)) (fun x => ?_)
      rw [gi_si_eq]
      by_cases z : x = 32 * R.length + v
      · rw [if_pos z, if_pos (by omega), z, (by omega : 32 * R.length + v - 32 * R.length = v)]
      · rw [if_neg z, h]
        by_cases y : 32 * R.length ≤ x ∧ x < 32 * R.length + v
        · rw [if_pos y, if_pos (by omega)]
        · rw [if_neg y, if_neg (by omega)]
    all_goals (intro q; first | omega | (rw [e45, h40]; omega))
/-- rows shifted by one place so far -/
def shM (M M1 : zM) (k x : Nat) : Prop := zSm [75, 76] M M1 ∧ (∀ y, gi M1 75 y = if y < k then gi M 75 (y + 1) else gi M 75 y) ∧ ∀ y, gi M1 76 y = if y < x then gi M 76 (y + 32) else gi M 76 y
theorem l_X9_keep_33 {n0 k : Nat} (hk : k < 23) (kn : ∀ M', shM M M' (k + 1) (32 * (k + 1)) → zGv B zy_X9_keep 1 0 0 n0 Kv 11 [some (zR 45), some (zI ((k : Int) + 1)), none] [] M' 0 0) :
    ∀ (d i : Nat) (M1 : zM), i + d = 32 → shM M M1 (k + 1) (32 * k + i) → zGv B zy_X9_keep 1 0 0 n0 Kv 33 [some (zR 45), some (zI (k : Int)), some (zI (i : Int))] [] M1 0 0 := by
  intro d
  induction d with
  | zero =>
    intro i M1 hi h
    apply b_X9_keep_33
    case k1 =>
      intro _
      rw [(by omega : 32 * k + i = 32 * (k + 1))] at h
      exact kn M1 h
    all_goals (intros; omega)
  | succ d ih =>
    intro i M1 hi h
    obtain ⟨f, h1, h2⟩ := h
    apply b_X9_keep_33
    case k2 =>
      intro _
      have e1 : (32 * (k : Int) + (i : Int)).toNat = 32 * k + i := by omega
      have e2 : (32 * (k : Int) + 32 + (i : Int)).toNat = 32 * k + i + 32 := by omega
      rw [e1, e2, h2, if_neg (by omega)]
      refine ih (i + 1) _ (by omega) ⟨f.st (by decide), fun y => by rw [gi_si_ne (by decide)]; exact h1 y, fun y => ?_⟩
      rw [gi_si_eq]
      by_cases z : y = 32 * k + i
      · rw [if_pos z, if_pos (by omega), z]
      · rw [if_neg z, h2]
        by_cases w : y < 32 * k + i
        · rw [if_pos w, if_pos (by omega)]
        · rw [if_neg w, if_neg (by omega)]
    all_goals (intros; omega)
theorem l_X9_keep_11 {n0 : Nat} (kn : ∀ M', shM M M' 23 736 → zGv B zy_X9_keep 1 0 0 n0 Kv 97 [some (zR 45), some (zI 0), none] [] (si (si M' 45 40 23) 75 23 (gi M' 45 49)) 0 0) :
    ∀ (d k : Nat) (M1 : zM), k + d = 23 → shM M M1 k (32 * k) → zGv B zy_X9_keep 1 0 0 n0 Kv 11 [some (zR 45), some (zI (k : Int)), none] [] M1 0 0 := by
  intro d
  induction d with
  | zero =>
    intro k M1 hk h
    have ek : k = 23 := by omega
    subst ek
    apply b_X9_keep_11
    case k1 => intro _; exact kn M1 h
    all_goals (intro q; exact absurd q (by decide))
  | succ d ih =>
    intro k M1 hk h
    obtain ⟨f, h1, h2⟩ := h
    have ek : ((k : Int)).toNat = k := rfl
    have ek1 : ((k : Int) + 1).toNat = k + 1 := by omega
    apply b_X9_keep_11
    case k2 =>
      intro _
      rw [ek, ek1, h1, if_neg (by omega)]
      refine l_X9_keep_33 (M := M) (k := k) (by omega) (fun M' h' => ?_) 32 0 _ (by omega) ⟨f.st (by decide), fun y => ?_, fun y => by rw [gi_si_ne (by decide)]; exact h2 y⟩
      · exact ih (k + 1) M' (by omega) h'
      · rw [gi_si_eq]
        by_cases z : y = k
        · rw [if_pos z, if_pos (by omega), z]
        · rw [if_neg z, h1]
          by_cases w : y < k
          · rw [if_pos w, if_pos (by omega)]
          · rw [if_neg w, if_neg (by omega)]
    all_goals (intros; omega)
theorem m_X9_keep (hk : knM M R) (ha : akM M a) (hl : a.length ≤ 32) (kk : ∀ M', zSm [45, 75, 76] M M' → (∀ q, q ≠ 40 → gi M' 45 q = gi M 45 q) → knM M' (holdS R a) → Kv M') : zCv B zy_X9_keep 1 0 0 [zR 45] M Kv := by
  obtain ⟨k1, k2, k3⟩ := hk
  refine e_X9_keep (fun n0 => ?_)
  apply b_X9_keep_0
  case c1 => intro _; omega
  case k1 =>
    intro q
    have hlt : R.length < 24 := by omega
    rw [k1, ha.1, show ((R.length : Int)).toNat = R.length from rfl]
    have f : zSm [75] M (si M 75 R.length (a.length : Int)) := zSm.rf.st (by decide)
    unfold holdS at kk
    rw [if_pos hlt] at kk
    refine l_X9_keep_97 (M := si M 75 R.length (a.length : Int)) (R := R) hl hlt (fun i s hs => ?_) (by rw [gi_si_ne (by decide)]; exact k1) (by rw [gi_si_eq, if_pos rfl]) ⟨by rw [gi_si_ne (by decide)]; exact ha.1, ha.2.same (gi_si_ne (by decide))⟩ (fun M' g1 g2 g3 => kk M' ((f.mono (by decide)).tr (g1.mono (by decide))) (fun q hq => (g2 q hq).trans (by rw [gi_si_ne (by decide)])) g3) a.length 0 _ (by omega) zSm.rf (fun x => by rw [if_neg (by omega)])
    have hi := (List.getElem?_eq_some_iff.mp hs).1
    obtain ⟨r1, r2, r3⟩ := k3 i s hs
    exact ⟨by rw [gi_si_eq, if_neg (by omega)]; exact r1, r2, fun k hk => by rw [gi_si_ne (by decide)]; exact r3 k hk⟩
  case k2 =>
    intro q
    have h24 : R.length = 24 := by omega
    unfold holdS at kk
    rw [if_neg (by omega)] at kk
    have hd : (R.drop 1).length = 23 := by rw [List.length_drop]; omega
    refine l_X9_keep_11 (M := M) (fun M1 h1 => ?_) 23 0 M (by omega) ⟨zSm.rf, fun y => by rw [if_neg (by omega)], fun y => by rw [if_neg (by omega)]⟩
    obtain ⟨f, s1, s2⟩ := h1
    have e45 : gi M1 45 = gi M 45 := f.ge (by decide)
    rw [e45, ha.1]
    have f2 : zSm [45, 75, 76] M (si (si M1 45 40 23) 75 23 (a.length : Int)) := ((f.mono (by decide)).st (by decide)).st (by decide)
    refine l_X9_keep_97 (M := si (si M1 45 40 23) 75 23 (a.length : Int)) (R := R.drop 1) hl (by omega) (fun i s hs => ?_) (by rw [gi_si_ne (by decide), gi_si_eq, if_pos rfl, hd]; rfl) (by rw [hd, gi_si_eq, if_pos rfl]) ⟨by rw [gi_si_ne (by decide), gi_si_eq, if_neg (by decide), e45]; exact ha.1, ha.2.same (f2.ge (by decide))⟩ (fun M' g1 g2 g3 => kk M' (f2.tr (g1.mono (by decide))) (fun q hq => (g2 q hq).trans (by rw [gi_si_ne (by decide), gi_si_eq, if_neg hq, e45])) g3) a.length 0 _ (by omega) zSm.rf (fun x => by rw [if_neg (by omega)])
    have hi := (List.getElem?_eq_some_iff.mp hs).1
    rw [hd] at hi
    rw [List.getElem?_drop] at hs
    obtain ⟨r1, r2, r3⟩ := k3 (1 + i) s hs
    refine ⟨?_, r2, fun k hk => ?_⟩
    · rw [gi_si_eq, if_neg (by omega), gi_si_ne (by decide), s1, if_pos hi, Nat.add_comm i 1]
      exact r1
    · rw [gi_si_ne (by decide), gi_si_ne (by decide), s2, if_pos (by omega), (by omega : 32 * i + k + 32 = 32 * (1 + i) + k)]
      exact r3 k hk
end MN23
