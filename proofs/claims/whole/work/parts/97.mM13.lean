/-! ===== an item once: the model ===== -/
/-- from what is left to a place, and back (-1 stays) -/
def cvN (n : Nat) (x : Int) : Int := if x < 0 then -1 else (n : Int) - x
theorem cvN_cv {n : Nat} {x : Int} (h : -1 ≤ x ∧ x ≤ n) : cvN n (cvN n x) = x := by
  unfold cvN
  by_cases z : x < 0
  · rw [if_pos z, if_pos (by decide)]; omega
  · rw [if_neg z, if_neg (by omega)]; omega
/-- the model's ends as what is left behind a rule -/
def eN (M : zM) (n : Nat) : tE := fun r l => cvN n (gi M 63 (33 * r + (n - l)))
/-- the model's text -/
def mN (M : zM) (s : List Int) : Prop := gi M 45 25 = (s.length : Int) ∧ zA M 62 s
theorem p_X9_once {B : zB} {K : Int → zM → Prop} {M : zM} {g : zG} {s : List Int} {k : Nat} {l : Int} (hx : RM M g) (hw : WG g) (hs : mN M s) (ho : okS s) (hk : (k : Int) < gN g) (hl : 0 ≤ l ∧ l ≤ s.length) (hb : isNm (gI g k) = true → -1 ≤ gi M 63 (33 * (nm (gI g k)).toNat + (s.length - l.toNat)) ∧ gi M 63 (33 * (nm (gI g k)).toNat + (s.length - l.toNat)) ≤ s.length)
    (kk : K (cvN s.length (onc (eN M s.length) g (chS s) k l)) M) : zCi B zy_X9_once 2 0 0 [zR 45, zI (k : Int), zI ((s.length : Int) - l)] M K := by
  have hn := hw.1
  have h32 := ho.1
  have ek : ((k : Int)).toNat = k := rfl
  have x3 := (hx.2.2.1 k hk).1
  refine e_X9_once (fun n0 => ?_)
  apply b_X9_once_0
  case k2 =>
    intro q
    rw [ek, x3] at q
    have nmc := isNm_iff.mp q
    have e : (33 * (gI g k - 65) + ((s.length : Int) - l)).toNat = 33 * (nm (gI g k)).toNat + (s.length - l.toNat) := by rw [nm_eq q]; omega
    rw [ek, x3, e]
    unfold onc at kk
    rw [if_pos (nm_lt.mpr q)] at kk
    unfold eN at kk
    rw [cvN_cv (hb q)] at kk
    exact kk
  case k1 =>
    intro q
    rw [ek, x3] at q
    rw [ek, x3, hs.1]
    unfold onc at kk
    rw [if_neg (fun z => q (nm_lt.mp z))] at kk
    by_cases z : 0 < l
    · have e := chS_at (s := s) (l := l) ⟨z, hl.2⟩
      rw [if_neg (by omega : ¬ (s.length : Int) ≤ (s.length : Int) - l), hs.2.get (by omega), ← e]
      by_cases y : chS s l.toNat = gI g k
      · rw [if_pos y] at kk ⊢
        unfold cvN at kk
        rw [if_neg (by omega)] at kk
        rw [(by omega : (s.length : Int) - l + 1 = (s.length : Int) - (l - 1))]
        exact kk
      · rw [if_neg y] at kk ⊢
        exact kk
    · have hc := (hw.2.2.1 k hk).1.resolve_right q
      have hch := isTx_iff.mp hc
      rw [if_pos (by omega : (s.length : Int) ≤ (s.length : Int) - l)]
      have e0 : l.toNat = 0 := by omega
      have : ¬ chS s l.toNat = gI g k := by
        rw [e0]
        unfold chS
        rw [if_pos rfl]
        omega
      rw [if_neg this] at kk
      exact kk
  case c4 => intro q; rw [ek, x3] at q ⊢; have := isNm_iff.mp q; omega
  case c5 => intro q; rw [ek, x3] at q ⊢; have := isNm_iff.mp q; omega
  case c6 => intro q; rw [ek, x3] at q ⊢; have := isNm_iff.mp q; omega
  case c7 => intro q; rw [ek, x3] at q ⊢; have := isNm_iff.mp q; omega
  case c2 => intro _ q; rw [hs.1] at q; omega
  all_goals (intros; omega)
