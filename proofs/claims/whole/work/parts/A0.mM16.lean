/-! ===== an alternative's end: the model ===== -/
theorem cvN_neg {n : Nat} {x : Int} (h : x < 0) : cvN n x = -1 := if_pos h
theorem cvN_pos {n : Nat} {x : Int} (h : 0 ≤ x) : cvN n x = (n : Int) - x := if_neg (by omega)
theorem cvN_bd {n : Nat} {x : Int} (h : x ≤ n) : -1 ≤ cvN n x ∧ cvN n x ≤ n := by
  by_cases z : x < 0
  · rw [cvN_neg z]; omega
  · rw [cvN_pos (by omega)]; omega
theorem cvN_sg {n : Nat} {x : Int} (h : x ≤ n) : cvN n x < 0 ↔ x < 0 := by
  by_cases z : x < 0
  · rw [cvN_neg z]; omega
  · rw [cvN_pos (by omega)]; omega
def aE (o : Option (Int × List tk)) : Int := match o with
  | none => -1
  | some p => p.1
theorem aE_map {o : Option (Int × List tk)} {L : List tk} : aE (o.map (fun p => (p.1, L ++ p.2))) = aE o := by cases o <;> rfl
/-- the model's cell of a rule, where so much is left, says what a table says -/
def eQ (M : zM) (n : Nat) (E : tE) (r l : Nat) : Prop := gi M 63 (33 * r + (n - l)) = cvN n (E r l)
theorem eQ.eN {M : zM} {n : Nat} {E : tE} {r l : Nat} (h : eQ M n E r l) (hT : TB E) (hl : l ≤ n) : eN M n r l = E r l := by
  have := hT r l
  show cvN n (gi M 63 (33 * r + (n - l))) = E r l
  rw [h, cvN_cv (by omega)]
theorem onc_eQ {M : zM} {g : zG} {s : List Int} {k : Nat} {l : Int} {E : tE} (hT : TB E) (hl : 0 ≤ l ∧ l ≤ s.length) (hb : isNm (gI g k) = true → eQ M s.length E (nm (gI g k)).toNat l.toNat) : onc (eN M s.length) g (chS s) k l = onc E g (chS s) k l := by
  unfold onc
  split
  · next q => exact (hb (nm_lt.mp q)).eN hT (by omega)
  · rfl
theorem eQ.bd {M : zM} {n : Nat} {E : tE} {r l : Nat} (h : eQ M n E r l) (hT : TB E) (hl : l ≤ n) : -1 ≤ gi M 63 (33 * r + (n - l)) ∧ gi M 63 (33 * r + (n - l)) ≤ n := by
  have := hT r l
  rw [h]
  exact cvN_bd (by omega)
theorem p_X9_onceE {B : zB} {K : Int → zM → Prop} {M : zM} {g : zG} {s : List Int} {k : Nat} {l : Int} {E : tE} (hT : TB E) (hx : RM M g) (hw : WG g) (hs : mN M s) (ho : okS s) (hk : (k : Int) < gN g) (hl : 0 ≤ l ∧ l ≤ s.length) (hb : isNm (gI g k) = true → eQ M s.length E (nm (gI g k)).toNat l.toNat)
    (kk : K (cvN s.length (onc E g (chS s) k l)) M) : zCi B zy_X9_once 2 0 0 [zR 45, zI (k : Int), zI ((s.length : Int) - l)] M K := by
  refine p_X9_once hx hw hs ho hk hl (fun q => (hb q).bd hT (by omega)) ?_
  rw [onc_eQ hT hl hb]
  exact kk
theorem agn_cg {E E' : tE} {g : zG} {ch : Nat → Int} {k : Nat} : ∀ (f : Nat) (l : Int), 0 ≤ l → (∀ x : Int, 0 ≤ x → x ≤ l → onc E' g ch k x = onc E g ch k x) → agn E' g ch k f l = agn E g ch k f l := by
  intro f
  induction f with
  | zero => intros; rfl
  | succ f ih =>
    intro l hl h
    unfold agn
    rw [h l hl (Int.le_refl _)]
    split
    · next z => exact ih _ z.1 (fun x h0 h1 => h x h0 (by omega))
    · rfl
theorem agn_fuel {E : tE} {g : zG} {ch : Nat → Int} {k : Nat} : ∀ (f f' : Nat) (l : Int), l ≤ f → l ≤ f' → agn E g ch k f l = agn E g ch k f' l := by
  intro f
  induction f with
  | zero =>
    intro f' l h h'
    cases f' with
    | zero => rfl
    | succ f' =>
      show l = if 0 ≤ onc E g ch k l ∧ onc E g ch k l < l then agn E g ch k f' (onc E g ch k l) else l
      rw [if_neg (by omega)]
  | succ f ih =>
    intro f' l h h'
    cases f' with
    | zero =>
      show (if 0 ≤ onc E g ch k l ∧ onc E g ch k l < l then agn E g ch k f (onc E g ch k l) else l) = l
      rw [if_neg (by omega)]
    | succ f' =>
      unfold agn
      split
      · next z => exact ih f' _ (by omega) (by omega)
      · rfl
theorem agn_bd {E : tE} {g : zG} {ch : Nat → Int} {k : Nat} : ∀ (f : Nat) (l : Int), 0 ≤ l → 0 ≤ agn E g ch k f l ∧ agn E g ch k f l ≤ l := by
  intro f
  induction f with
  | zero => intro l hl; exact ⟨hl, Int.le_refl _⟩
  | succ f ih =>
    intro l hl
    unfold agn
    split
    · next z =>
      have := ih _ z.1
      omega
    · exact ⟨hl, Int.le_refl _⟩
theorem m_X9_againE {B : zB} {K : Int → zM → Prop} {M : zM} {g : zG} {s : List Int} {k : Nat} {l : Int} {E : tE} (hT : TB E) (hx : RM M g) (hw : WG g) (hs : mN M s) (ho : okS s) (hk : (k : Int) < gN g) (hl : 0 ≤ l ∧ l ≤ s.length) (hb : isNm (gI g k) = true → ∀ q : Nat, (q : Int) ≤ l → eQ M s.length E (nm (gI g k)).toNat q)
    (kk : K ((s.length : Int) - agn E g (chS s) k 33 l) M) : zCi B zy_X9_again 3 0 0 [zR 45, zI (k : Int), zI ((s.length : Int) - l)] M K := by
  refine m_X9_again hx hw hs ho hk hl (fun q hq hn => (hb hn q hq).bd hT (by omega)) ?_
  rw [agn_cg (E := E) 33 l hl.1 (fun x h0 h1 => onc_eQ hT ⟨h0, by omega⟩ (fun hn => hb hn _ (by omega)))]
  exact kk
/-- where an item that may be there ends -/
def itN (E : tE) (g : zG) (ch : Nat → Int) (k : Nat) (l : Int) : Int := if gS g k = 42 then agn E g ch k 33 l else if onc E g ch k l < 0 then l else if gS g k = 43 then agn E g ch k 33 (onc E g ch k l) else onc E g ch k l
theorem mor_it {E : tE} {g : zG} {ch : Nat → Int} {k : Nat} {l : Int} : (mor E g ch k 0 l < 0 ∧ lof g k = false) ↔ (onc E g ch k l < 0 ∧ ¬ gS g k = 42 ∧ ¬ gS g k = 63) := by
  have h1 : lof g k = false ↔ (¬ gS g k = 42 ∧ ¬ gS g k = 63) := by
    unfold lof
    by_cases a : gS g k = 42 <;> by_cases b : gS g k = 63 <;> simp [a, b]
  rw [h1]
  constructor
  · rintro ⟨h, h2, h3⟩
    unfold mor at h
    rw [if_neg (by omega), if_neg (by omega)] at h
    exact ⟨h, h2, h3⟩
  · rintro ⟨h, h2, h3⟩
    unfold mor
    rw [if_neg (by omega), if_neg (by omega)]
    exact ⟨h, h2, h3⟩
theorem tks_it {E : tE} {g : zG} {ch : Nat → Int} (hT : TB E) (h0 : ch 0 < 0) (hw : WG g) {k : Nat} (hk : (k : Int) < gN g) {l : Int} (hl : 0 ≤ l ∧ l ≤ 32) : enL l (tks E g ch k 33 0 l) = itN E g ch k l := by
  have hS := (hw.2.2.1 k hk).2
  have ob := onc_bd hT h0 hw hk hl.1
  unfold itN
  by_cases a : gS g k = 42
  · rw [if_pos a]
    exact tks_agn hT h0 hw hk (Or.inl a) 33 0 l hl.1 (Or.inr a)
  · rw [if_neg a]
    have em : mor E g ch k 0 l = onc E g ch k l := by
      unfold mor
      rw [if_neg (by omega), if_neg (by omega)]
    unfold tks
    rw [em]
    by_cases z : onc E g ch k l < 0
    · rw [if_pos z, if_pos z]
      rfl
    · rw [if_neg z, if_neg z, enL_cons]
      dsimp only
      by_cases b : gS g k = 43
      · rw [if_pos b, tks_agn hT h0 hw hk (Or.inr b) 32 (0 + 1) _ (by omega) (Or.inl (by decide))]
        exact agn_fuel 32 33 _ (by omega) (by omega)
      · rw [if_neg b]
        have e1 : mor E g ch k (0 + 1) (onc E g ch k l) < 0 := by
          unfold mor
          rw [if_pos ⟨by decide, by omega⟩]
          decide
        unfold tks
        rw [if_pos e1]
        rfl
