/-! ===== the matcher's cells ===== -/
def eX (M : zM) : Nat → Bool := fun r => decide (¬ gi M 17 r = 0)
def eM (M : zM) : Nat → Bool := fun r => decide (¬ gi M 59 r = 0)
/-- the matcher's text -/
def mS (M : zM) (s : List Int) : Prop := gi M 19 2 = (s.length : Int) ∧ zA M 20 s
def eT (M : zM) : tE := fun r l => gi M 21 (r * 33 + l)
def bT (M : zM) : tE := fun r l => gi M 22 (r * 33 + l)
def aT (M : zM) : tE := fun r l => gi M 23 (r * 33 + l)
def BB (b : tE) : Prop := ∀ r l, 0 ≤ b r l ∧ b r l ≤ 60
/-- how many nodes a taking gives -/
def nofk (b : tE) (g : zG) (k : Nat) (l : Int) : Int := if nm (gI g k) < 6 then 1 + b (nm (gI g k)).toNat l.toNat else if gS g k = 0 then 0 else 1
def cap (x : Int) : Int := if x < 60 then x else 60
def cnt (b : tE) (g : zG) (c : Int) (L : List tk) : Int := L.foldl (fun c p => cap (c + nofk b g p.1 p.2.2.1)) c
theorem eT_si {M : zM} {k j : Nat} {v : Int} (h : 21 ≠ k) : eT (si M k j v) = eT M := by unfold eT; rw [gi_si_ne h]
theorem bT_si {M : zM} {k j : Nat} {v : Int} (h : 22 ≠ k) : bT (si M k j v) = bT M := by unfold bT; rw [gi_si_ne h]
theorem aT_si {M : zM} {k j : Nat} {v : Int} (h : 23 ≠ k) : aT (si M k j v) = aT M := by unfold aT; rw [gi_si_ne h]
theorem mS_7 {M : zM} {s : List Int} {v : Int} (h : mS M s) : mS (si M 19 7 v) s := ⟨by rw [gi_si_eq, if_neg (by decide)]; exact h.1, h.2.same (gi_si_ne (by decide))⟩
theorem RX_si {M : zM} {g : zG} {k j : Nat} {v : Int} (h : RX M g) (hk : k < 8 ∨ k = 9 ∨ 16 < k) : RX (si M k j v) g := h.same (fun a ha => gi_si_ne (by omega))
theorem si_si {M : zM} {k j : Nat} {v w : Int} : si (si M k j v) k j w = si M k j w := by
  unfold si
  simp only [Prod.mk.injEq, and_true]
  funext a
  by_cases h : a = k
  · simp only [h, if_true]
    funext b
    split <;> rfl
  · simp [h]
theorem si_gi {M : zM} {k j : Nat} {v : Int} (h : gi M k j = v) : si M k j v = M := by
  unfold si
  have : (fun a => if a = k then (fun b => if b = j then v else M.1 a b) else M.1 a) = M.1 := by
    funext a
    by_cases e : a = k
    · simp only [e, if_true]
      funext b
      by_cases e2 : b = j
      · rw [if_pos e2, e2, ← h]; rfl
      · rw [if_neg e2]
    · rw [if_neg e]
  rw [this]
theorem chS_0 {s : List Int} : chS s 0 = -1 := rfl
theorem chS_neg {s : List Int} : chS s 0 < 0 := by rw [chS_0]; decide
theorem nofk_bd {b : tE} {g : zG} (hB : BB b) {k : Nat} {l : Int} : 0 ≤ nofk b g k l ∧ nofk b g k l ≤ 61 := by
  unfold nofk
  have := hB (nm (gI g k)).toNat l.toNat
  split
  · omega
  · split <;> omega
theorem cap_bd {x : Int} (h : 0 ≤ x) : 0 ≤ cap x ∧ cap x ≤ 60 := by
  unfold cap
  split <;> omega
theorem cnt_bd {b : tE} {g : zG} (hB : BB b) (L : List tk) : ∀ {c : Int}, 0 ≤ c → c ≤ 60 → 0 ≤ cnt b g c L ∧ cnt b g c L ≤ 60 := by
  induction L with
  | nil => intro c h1 h2; exact ⟨h1, h2⟩
  | cons p L ih =>
    intro c h1 h2
    have h3 := nofk_bd (g := g) hB (k := p.1) (l := p.2.2.1)
    have h4 := cap_bd (x := c + nofk b g p.1 p.2.2.1) (by omega)
    exact ih h4.1 h4.2
theorem cell_nat {r l : Int} (hr : 0 ≤ r) (hl : 0 ≤ l) : (r * 33 + l).toNat = r.toNat * 33 + l.toNat := by omega
