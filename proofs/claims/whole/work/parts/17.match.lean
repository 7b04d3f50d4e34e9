/-! ===== matching: what a table of the rules' ends has to satisfy ===== -/
abbrev tE : Type := Nat → Nat → Int
/-- the character that has l characters from itself on -/
def chS (s : List Int) (l : Nat) : Int := if l = 0 then -1 else if l ≤ s.length then s.getD (s.length - l) 0 else -1
def onc (E : tE) (g : zG) (ch : Nat → Int) (k : Nat) (l : Int) : Int := if nm (gI g k) < 6 then E (nm (gI g k)).toNat l.toNat else if ch l.toNat = gI g k then l - 1 else -1
def mor (E : tE) (g : zG) (ch : Nat → Int) (k : Nat) (t l : Int) : Int := if 0 < t ∧ ¬ (gS g k = 42 ∨ gS g k = 43) then -1 else if (0 < t ∨ gS g k = 42) ∧ onc E g ch k l = l then -1 else onc E g ch k l
/-- a taking: item, how often before, what was left before, what is left then -/
abbrev tk : Type := Nat × Int × Int × Int
def tks (E : tE) (g : zG) (ch : Nat → Int) (k : Nat) : Nat → Int → Int → List tk
  | 0, _, _ => []
  | f + 1, t, l => if mor E g ch k t l < 0 then [] else (k, t, l, mor E g ch k t l) :: tks E g ch k f (t + 1) (mor E g ch k t l)
def enL (l : Int) (L : List tk) : Int := L.foldl (fun _ p => p.2.2.2) l
def lof (g : zG) (k : Nat) : Bool := decide (gS g k = 42) || decide (gS g k = 63)
def alt (E : tE) (g : zG) (ch : Nat → Int) : Nat → Nat → Int → Option (Int × List tk)
  | 0, _, l => some (l, [])
  | m + 1, k, l => if mor E g ch k 0 l < 0 ∧ lof g k = false then none else (alt E g ch m (k + 1) (enL l (tks E g ch k 33 0 l))).map (fun p => (p.1, tks E g ch k 33 0 l ++ p.2))
def rms (E : tE) (g : zG) (ch : Nat → Int) (l : Int) : Nat → Nat → Option (Nat × Int × List tk)
  | 0, _ => none
  | m + 1, a => match alt E g ch (gF g (a + 1) - gF g a).toNat (gF g a).toNat l with
    | some p => some (a, p)
    | none => rms E g ch l m (a + 1)
def rmt (E : tE) (g : zG) (ch : Nat → Int) (r : Nat) (l : Int) : Option (Nat × Int × List tk) := if gR g r < 0 then none else rms E g ch l (gE g r - gR g r).toNat (gR g r).toNat
def rva (o : Option (Nat × Int × List tk)) : Int := match o with
  | none => -1
  | some p => p.2.1
def TB (E : tE) : Prop := ∀ r l, -1 ≤ E r l ∧ E r l ≤ l
theorem onc_bd {E : tE} {g : zG} {ch : Nat → Int} (hT : TB E) (h0 : ch 0 < 0) (hw : WG g) {k : Nat} (hk : (k : Int) < gN g) {l : Int} (hl : 0 ≤ l) : -1 ≤ onc E g ch k l ∧ onc E g ch k l ≤ l := by
  unfold onc
  split
  · have := hT (nm (gI g k)).toNat l.toNat
    omega
  · split
    · next h =>
      have h3 := (hw.2.2.1 k hk).1
      rw [isTx_iff, isNm_iff] at h3
      have : l ≠ 0 := fun e => by subst e; simp at h; omega
      omega
    · omega
theorem mor_bd {E : tE} {g : zG} {ch : Nat → Int} (hT : TB E) (h0 : ch 0 < 0) (hw : WG g) {k : Nat} (hk : (k : Int) < gN g) {t l : Int} (hl : 0 ≤ l) : -1 ≤ mor E g ch k t l ∧ mor E g ch k t l ≤ l ∧ (0 < t → mor E g ch k t l < l) := by
  have h := onc_bd hT h0 hw hk hl
  unfold mor
  split
  · omega
  · split
    · omega
    · omega
theorem enL_cons {l : Int} {p : tk} {L : List tk} : enL l (p :: L) = enL p.2.2.2 L := rfl
theorem tks_en {E : tE} {g : zG} {ch : Nat → Int} (hT : TB E) (h0 : ch 0 < 0) (hw : WG g) {k : Nat} (hk : (k : Int) < gN g) (f : Nat) : ∀ (t l : Int), 0 ≤ l → 0 ≤ enL l (tks E g ch k f t l) ∧ enL l (tks E g ch k f t l) ≤ l := by
  induction f with
  | zero => intro t l hl; exact ⟨hl, Int.le_refl _⟩
  | succ f ih =>
    intro t l hl
    have h := mor_bd (t := t) hT h0 hw hk hl
    unfold tks
    split
    · exact ⟨hl, Int.le_refl _⟩
    · rw [enL_cons]
      dsimp only
      have := ih (t + 1) (mor E g ch k t l) (by omega)
      omega
/-- what may be read when the rule is settled whose forerunners are bf, with l characters left -/
def Al (g : zG) (bf : Nat → Prop) (l : Int) (r : Nat) (l' : Int) : Prop := (∃ k : Nat, (k : Int) < gN g ∧ nm (gI g k) < 6 ∧ r = (nm (gI g k)).toNat) ∧ ((0 ≤ l' ∧ l' < l) ∨ (l' = l ∧ bf r))
section CG
variable {E E' : tE} {g : zG} {ch ch' : Nat → Int} {bf : Nat → Prop} {em : Nat → Bool} {l : Int}
theorem onc_cg (hE : ∀ r l', Al g bf l r l' → E' r l'.toNat = E r l'.toNat) (hc : ∀ x : Int, x ≤ l → ch' x.toNat = ch x.toNat) {k : Nat} {x : Int} (hx : x ≤ l) (ha : nm (gI g k) < 6 → Al g bf l (nm (gI g k)).toNat x) : onc E' g ch' k x = onc E g ch k x := by
  unfold onc
  split
  · next h => exact hE _ _ (ha h)
  · rw [hc x hx]
theorem mor_cg (hE : ∀ r l', Al g bf l r l' → E' r l'.toNat = E r l'.toNat) (hc : ∀ x : Int, x ≤ l → ch' x.toNat = ch x.toNat) {k : Nat} {t x : Int} (hx : x ≤ l) (ha : nm (gI g k) < 6 → Al g bf l (nm (gI g k)).toNat x) : mor E' g ch' k t x = mor E g ch k t x := by
  unfold mor
  rw [onc_cg hE hc hx ha]
theorem tks_cg (hT : TB E) (h0 : ch 0 < 0) (hw : WG g) (hE : ∀ r l', Al g bf l r l' → E' r l'.toNat = E r l'.toNat) (hc : ∀ x : Int, x ≤ l → ch' x.toNat = ch x.toNat) {k : Nat} (hk : (k : Int) < gN g) (f : Nat) : ∀ (t x : Int), 0 ≤ x → x ≤ l → (x < l ∨ (nm (gI g k) < 6 → bf (nm (gI g k)).toNat)) →
    tks E' g ch' k f t x = tks E g ch k f t x ∧ ∀ p ∈ tks E g ch k f t x, (p.1 = k ∧ 0 ≤ p.2.2.1 ∧ p.2.2.1 ≤ l) ∧ (nm (gI g p.1) < 6 → Al g bf l (nm (gI g p.1)).toNat p.2.2.1) := by
  induction f with
  | zero => intro t x _ _ _; exact ⟨rfl, fun p hp => by cases hp⟩
  | succ f ih =>
    intro t x hx hxl ha
    have hal : nm (gI g k) < 6 → Al g bf l (nm (gI g k)).toNat x := fun q => by
      refine ⟨⟨k, hk, q, rfl⟩, ?_⟩
      rcases ha with h | h
      · exact Or.inl ⟨hx, h⟩
      · by_cases e : x < l
        · exact Or.inl ⟨hx, e⟩
        · exact Or.inr ⟨by omega, h q⟩
    have hb := mor_bd (t := t) hT h0 hw hk hx
    have em := mor_cg (t := t) hE hc hxl hal
    unfold tks
    rw [em]
    split
    · exact ⟨rfl, fun p hp => by cases hp⟩
    · next hm =>
      have h2 := ih (t + 1) (mor E g ch k t x) (by omega) (by omega) (by
        rcases ha with h | h
        · exact Or.inl (by omega)
        · exact Or.inr h)
      refine ⟨by rw [h2.1], fun p hp => ?_⟩
      rcases List.mem_cons.mp hp with rfl | hp
      · exact ⟨⟨rfl, hx, hxl⟩, hal⟩
      · exact h2.2 p hp
/-- the items at the head of an alternative name forerunners -/
def LD (g : zG) (em : Nat → Bool) (bf : Nat → Prop) (m k : Nat) : Prop := ∀ j, j < m → (∀ i, i < j → gV g em (k + i) = true) → isNm (gI g (k + j)) = true → bf (nm (gI g (k + j))).toNat
theorem LD.tail {m k : Nat} (h : LD g em bf (m + 1) k) (hv : gV g em k = true) : LD g em bf m (k + 1) := fun j hj hi hn => by
  have e : k + 1 + j = k + (j + 1) := by omega
  rw [e] at hn ⊢
  refine h (j + 1) (by omega) (fun i hi2 => ?_) hn
  cases i with
  | zero => exact hv
  | succ i =>
    have := hi i (by omega)
    rw [show k + 1 + i = k + (i + 1) from by omega] at this
    exact this
theorem item_void (hT : TB E) (h0 : ch 0 < 0) (hw : WG g) (hem : ∀ r, bf r → E r l.toNat = l → em r = true) (hl : 0 ≤ l) {k : Nat} (hk : (k : Int) < gN g) (hb : nm (gI g k) < 6 → bf (nm (gI g k)).toNat) (hn : ¬ (mor E g ch k 0 l < 0 ∧ lof g k = false)) (he : enL l (tks E g ch k 33 0 l) = l) : gV g em k = true := by
  by_cases hlf : lof g k = true
  · unfold lof at hlf
    unfold gV
    simp only [Bool.or_eq_true, decide_eq_true_eq] at hlf ⊢
    rcases hlf with h | h
    · exact Or.inl (Or.inr h)
    · exact Or.inl (Or.inl h)
  · have hlf2 : lof g k = false := by simpa using hlf
    have hm : ¬ mor E g ch k 0 l < 0 := fun q => hn ⟨q, hlf2⟩
    have hb2 := mor_bd (t := 0) hT h0 hw hk hl
    unfold tks at he
    rw [if_neg hm, enL_cons] at he
    have h3 := tks_en hT h0 hw hk 32 (0 + 1) (mor E g ch k 0 l) (by omega)
    have e4 : mor E g ch k 0 l = l := by
      have : enL (mor E g ch k 0 l) (tks E g ch k 32 (0 + 1) (mor E g ch k 0 l)) = l := he
      omega
    have e5 : onc E g ch k l = l := by
      unfold mor at e4
      rw [if_neg (by omega)] at e4
      split at e4
      · omega
      · exact e4
    unfold onc at e5
    split at e5
    · next hnm =>
      have := hem _ (hb hnm) e5
      unfold gV
      rw [nm_lt] at hnm
      simp [hnm, this]
    · split at e5
      · omega
      · omega
theorem alt_cg (hT : TB E) (h0 : ch 0 < 0) (hw : WG g) (hE : ∀ r l', Al g bf l r l' → E' r l'.toNat = E r l'.toNat) (hc : ∀ x : Int, x ≤ l → ch' x.toNat = ch x.toNat) (hem : ∀ r, bf r → E r l.toNat = l → em r = true) (hl : 0 ≤ l) (m : Nat) : ∀ (k : Nat) (x : Int), ((k + m : Nat) : Int) ≤ gN g → 0 ≤ x → x ≤ l → (x < l ∨ LD g em bf m k) →
    alt E' g ch' m k x = alt E g ch m k x ∧ ∀ e L, alt E g ch m k x = some (e, L) → (0 ≤ e ∧ e ≤ x) ∧ (∀ p ∈ L, (k ≤ p.1 ∧ p.1 < k + m ∧ 0 ≤ p.2.2.1 ∧ p.2.2.1 ≤ l) ∧ (nm (gI g p.1) < 6 → Al g bf l (nm (gI g p.1)).toNat p.2.2.1)) ∧ (e = l → ∀ i, i < m → gV g em (k + i) = true) := by
  induction m with
  | zero =>
    intro k x _ hx _ _
    refine ⟨rfl, fun e L h => ?_⟩
    simp only [alt, Option.some.injEq, Prod.mk.injEq] at h
    obtain ⟨rfl, rfl⟩ := h
    exact ⟨⟨hx, Int.le_refl _⟩, (fun p hp => by cases hp), fun _ i hi => by omega⟩
  | succ m ih =>
    intro k x hkm hx hxl ha
    have hk : (k : Int) < gN g := by omega
    have hnb : x < l ∨ (nm (gI g k) < 6 → bf (nm (gI g k)).toNat) := by
      rcases ha with h | h
      · exact Or.inl h
      · exact Or.inr (fun q => h 0 (by omega) (fun i hi => by omega) (nm_lt.mp q))
    have ht := tks_cg (E := E) (E' := E') (t := 0) hT h0 hw hE hc hk 33 x hx hxl hnb
    have hal : nm (gI g k) < 6 → Al g bf l (nm (gI g k)).toNat x := fun q => by
      refine ⟨⟨k, hk, q, rfl⟩, ?_⟩
      rcases hnb with h | h
      · exact Or.inl ⟨hx, h⟩
      · by_cases e : x < l
        · exact Or.inl ⟨hx, e⟩
        · exact Or.inr ⟨by omega, h q⟩
    have hm := mor_cg (t := 0) hE hc hxl hal
    have hen := tks_en hT h0 hw hk 33 0 x hx
    unfold alt
    rw [hm, ht.1]
    by_cases hcond : mor E g ch k 0 x < 0 ∧ lof g k = false
    · rw [if_pos hcond, if_pos hcond]
      exact ⟨rfl, fun e L h => by cases h⟩
    · rw [if_neg hcond, if_neg hcond]
      have hvd : enL x (tks E g ch k 33 0 x) = l → gV g em k = true := fun he => by
        have exl : x = l := by omega
        subst exl
        exact item_void hT h0 hw hem hl hk (by
          rcases hnb with h | h
          · omega
          · exact h) hcond he
      have h2 := ih (k + 1) (enL x (tks E g ch k 33 0 x)) (by omega) hen.1 (by omega) (by
        by_cases he : enL x (tks E g ch k 33 0 x) < l
        · exact Or.inl he
        · refine Or.inr ?_
          have he2 : enL x (tks E g ch k 33 0 x) = l := by omega
          rcases ha with h | h
          · omega
          · exact h.tail (hvd he2))
      rw [h2.1]
      refine ⟨rfl, fun e L h => ?_⟩
      cases hq : alt E g ch m (k + 1) (enL x (tks E g ch k 33 0 x)) with
      | none => rw [hq] at h; cases h
      | some q =>
        rw [hq] at h
        simp only [Option.map_some, Option.some.injEq, Prod.mk.injEq] at h
        obtain ⟨rfl, rfl⟩ := h
        obtain ⟨f1, f2, f3⟩ := h2.2 q.1 q.2 hq
        refine ⟨⟨f1.1, by omega⟩, fun p hp => ?_, fun he i hi => ?_⟩
        · rcases List.mem_append.mp hp with h | h
          · have := ht.2 p h
            exact ⟨⟨by omega, by omega, this.1.2.1, this.1.2.2⟩, this.2⟩
          · have := f2 p h
            exact ⟨⟨by omega, by omega, this.1.2.2.1, this.1.2.2.2⟩, this.2⟩
        · cases i with
          | zero => exact hvd (by omega)
          | succ i =>
            have := f3 he i (by omega)
            rw [show k + 1 + i = k + (i + 1) from by omega] at this
            exact this
/-- all alternatives of the rules are led by forerunners -/
theorem rms_cg (hT : TB E) (h0 : ch 0 < 0) (hw : WG g) (hE : ∀ r l', Al g bf l r l' → E' r l'.toNat = E r l'.toNat) (hc : ∀ x : Int, x ≤ l → ch' x.toNat = ch x.toNat) (hem : ∀ r, bf r → E r l.toNat = l → em r = true) (hl : 0 ≤ l) (m : Nat) : ∀ (a : Nat), ((a + m : Nat) : Int) ≤ gA g → (∀ b, a ≤ b → b < a + m → LD g em bf (gF g (b + 1) - gF g b).toNat (gF g b).toNat) →
    rms E' g ch' l m a = rms E g ch l m a ∧ ∀ b e L, rms E g ch l m a = some (b, e, L) → (a ≤ b ∧ b < a + m) ∧ (0 ≤ e ∧ e ≤ l) ∧ (∀ p ∈ L, ((gF g b).toNat ≤ p.1 ∧ (p.1 : Int) < gF g (b + 1) ∧ 0 ≤ p.2.2.1 ∧ p.2.2.1 ≤ l) ∧ (nm (gI g p.1) < 6 → Al g bf l (nm (gI g p.1)).toNat p.2.2.1)) ∧ (e = l → ∀ i, i < (gF g (b + 1) - gF g b).toNat → gV g em ((gF g b).toNat + i) = true) := by
  induction m with
  | zero => intro a _ _; exact ⟨rfl, fun b e L h => by cases h⟩
  | succ m ih =>
    intro a ham hld
    have hf := hw.2.2.2.1 a (by omega)
    have hf2 := hw.2.2.2.2.1 (a + 1) (by omega)
    have h1 := alt_cg (E := E) (E' := E') hT h0 hw hE hc hem hl (gF g (a + 1) - gF g a).toNat (gF g a).toNat l (by omega) hl (Int.le_refl _) (Or.inr (hld a (by omega) (by omega)))
    have h2 := ih (a + 1) (by omega) (fun b hb hb2 => hld b (by omega) (by omega))
    unfold rms
    rw [h1.1, h2.1]
    refine ⟨rfl, fun b e L h => ?_⟩
    cases hq : alt E g ch (gF g (a + 1) - gF g a).toNat (gF g a).toNat l with
    | some p =>
      rw [hq] at h
      simp only [Option.some.injEq, Prod.mk.injEq] at h
      obtain ⟨rfl, rfl⟩ := h
      obtain ⟨f1, f2, f3⟩ := h1.2 e L hq
      exact ⟨by omega, f1, fun p hp => ⟨⟨(f2 p hp).1.1, by have := (f2 p hp).1.2.1; omega, (f2 p hp).1.2.2⟩, (f2 p hp).2⟩, f3⟩
    | none =>
      rw [hq] at h
      obtain ⟨f1, f2⟩ := h2.2 b e L h
      exact ⟨by omega, f2⟩
end CG
