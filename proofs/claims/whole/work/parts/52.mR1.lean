/-! ===== Reducer: leaves ===== -/
theorem TR.g {M : zM} {L : List nd} (h : TR M L) {k : Nat} (hk : k < L.length) : ndX M k = ndG L k := by
  have := h.2.2 k hk
  rw [List.getElem?_eq_getElem hk] at this
  rw [Option.some.inj this]
  unfold ndG
  simp [List.getD, hk]
theorem TR.at {M : zM} {L : List nd} (h : TR M L) {k : Nat} (hk : k < L.length) : gi M 25 k = nR (ndG L k) ∧ gi M 26 k = nL (ndG L k) ∧ gi M 27 k = nB (ndG L k) ∧ gi M 28 k = nZ (ndG L k) ∧ gi M 29 k = nD (ndG L k) ∧ gi M 30 k = nP (ndG L k) := by
  rw [← h.g hk]
  exact ⟨rfl, rfl, rfl, rfl, rfl, rfl⟩
theorem p_X4_beginsWord {B : zB} {K : Int → zM → Prop} {M : zM} {p1 : Int} {s : List Int} (hs : tT M 1 s) (ho : s.length ≤ 32) (hp : 0 < p1 ∧ p1 ≤ s.length) (k : K (if bgW s p1.toNat = true then 1 else 0) M) : zCi B zy_X4_beginsWord 1 0 0 [zR 31, zI p1] M K := by
  have e := hs.1
  refine e_X4_beginsWord (fun n0 => ?_)
  apply b_X4_beginsWord_0
  case k1 =>
    rw [zifc (Q := bgW s p1.toNat = true) (by
      unfold bgW
      simp only [Bool.and_eq_true, decide_eq_true_eq, Bool.not_eq_true', decide_eq_false_iff_not]
      by_cases h : p1 < s.length
      · have h1 : gi M 2 p1.toNat = s.getD p1.toNat 0 := hs.2.get (by omega)
        have h2 : gi M 2 (p1 - 1).toNat = s.getD (p1 - 1).toNat 0 := hs.2.get (by omega)
        rw [h1, h2, show (p1 - 1).toNat = p1.toNat - 1 from by omega]
        constructor
        · rintro ⟨a, b, c, d⟩
          exact ⟨⟨⟨by omega, by omega⟩, c⟩, d⟩
        · rintro ⟨⟨⟨a, b⟩, c⟩, d⟩
          exact ⟨by omega, by omega, c, d⟩
      · constructor
        · rintro ⟨a, b, c, d⟩
          omega
        · rintro ⟨⟨⟨a, b⟩, c⟩, d⟩
          omega)]
    exact k
  all_goals (intros; omega)
theorem p_X4_isBelowKept {B : zB} {K : Int → zM → Prop} {M : zM} {p1 wl : Int} {L : List nd} (ht : TR M L) (hw : WT wl L) (hp : 0 < p1 ∧ p1 < L.length) (k : K (if ¬ gi M 34 (nP (ndG L p1.toNat)).toNat = 0 then 1 else 0) M) : zCi B zy_X4_isBelowKept 1 0 0 [zR 31, zI p1] M K := by
  have h1 := ht.at (k := p1.toNat) (by omega)
  have h2 := hw.2.2.2.2 p1.toNat (by omega) (by omega)
  have h3 := ht.1
  have h4 := ht.2.1
  refine e_X4_isBelowKept (fun n0 => ?_)
  apply b_X4_isBelowKept_0
  case k1 =>
    rw [h1.2.2.2.2.2]
    rw [zifc (Q := ¬ gi M 34 (nP (ndG L p1.toNat)).toNat = 0) ⟨fun q => q.2.2, fun q => ⟨by omega, by omega, q⟩⟩]
    exact k
  all_goals (intros; omega)
theorem p_X4_isBelow {B : zB} {K : Int → zM → Prop} {M : zM} {p1 p2 wl : Int} {L : List nd} (ht : TR M L) (hw : WT wl L) (hp : 0 ≤ p1 ∧ p1 < L.length) (hq : 0 ≤ p2 ∧ p2 < L.length) (k : K (if nD (ndG L p2.toNat) < nD (ndG L p1.toNat) then 1 else 0) M) : zCi B zy_X4_isBelow 1 0 0 [zR 31, zI p1, zI p2] M K := by
  have h1 := ht.at (k := p1.toNat) (by omega)
  have h2 := ht.at (k := p2.toNat) (by omega)
  have h4 := ht.2.1
  refine e_X4_isBelow (fun n0 => ?_)
  apply b_X4_isBelow_0
  case k1 => rw [h1.2.2.2.2.1, h2.2.2.2.2.1]; exact k
  all_goals (intros; omega)
theorem p_X4_isMove {B : zB} {K : Int → zM → Prop} {M : zM} {p1 p2 wl : Int} {L : List nd} (ht : TR M L) (hw : WT wl L) (hp : 0 ≤ p1 ∧ p1 < L.length) (hq : 0 ≤ p2 ∧ p2 < L.length) (k : K (if isM L p1.toNat p2.toNat = true then 1 else 0) M) : zCi B zy_X4_isMove 1 0 0 [zR 31, zI p1, zI p2] M K := by
  have h1 := ht.at (k := p1.toNat) (by omega)
  have h2 := ht.at (k := p2.toNat) (by omega)
  have h4 := ht.2.1
  have h5 := (hw.2.1 p1.toNat (by omega)).2.1
  refine e_X4_isMove (fun n0 => ?_)
  apply b_X4_isMove_0
  case k1 =>
    intro hne
    rw [h1.1, h1.2.2.2.1, h2.1, h2.2.2.2.1]
    rw [zifc (Q := isM L p1.toNat p2.toNat = true) (by
      unfold isM
      rw [if_neg (by omega)]
      simp only [Bool.and_eq_true, decide_eq_true_eq]
      exact ⟨fun ⟨a, b, c⟩ => ⟨⟨a, b⟩, c⟩, fun ⟨⟨a, b⟩, c⟩ => ⟨a, b, c⟩⟩)]
    exact k
  case k2 =>
    intro he
    rw [h1.2.1]
    have e : nL (ndG L p1.toNat) = if isM L p1.toNat p2.toNat = true then 1 else 0 := by
      unfold isM
      rw [he, if_pos rfl]
      rcases h5 with h | h <;> rw [h] <;> rfl
    rw [e]
    exact k
  case c4 => intro _; rw [h1.2.1]; exact h5
  all_goals (intros; omega)
theorem dpF_cg {f g : Nat → Int} : ∀ n, (∀ i, i < n → f i = g i) → dpF f n = dpF g n := by
  intro n
  induction n with
  | zero => intro _; rfl
  | succ n ih =>
    intro h
    unfold dpF
    rw [ih (fun i hi => h i (by omega)), h n (by omega)]
theorem pd_X7_deepest {B : zB} {K : Int → zM → Prop} {M : zM} {wl : Int} {L : List nd} (ht : TR M L) (hw : WT wl L) (k : K (dpL L) M) : zCi B zy_X7_deepest 1 0 0 [zR 24] M K := by
  refine p_X7_deepest (n := L.length) ht.1 ht.2.1 ?_
  have : dpF (gi M 29) L.length = dpL L := dpF_cg _ (fun i hi => (ht.at hi).2.2.2.2.1)
  rw [this]
  exact k
