/-! ===== terms as rows of steps; the state that both sides keep ===== -/
abbrev st3 : Type := Int × Int × Int
/-- a step that looks at the text -/
def atP (p : st3) (s : List Int) : Bool := if p.1 = 0 then decide (p.2.2 ≤ cntL p.2.1 s) else if p.1 = 1 then prL p.2.1 p.2.2 false s else if p.1 = 2 then prL p.2.1 p.2.2 true s else if p.1 = 3 then decide (p.2.1 ≤ (s.length : Int)) else decide ((s.length : Int) % 2 = 0)
def stP (s : List Int) (q : List Bool) (p : st3) : List Bool := if p.1 < 5 then atP p s :: q else if p.1 = 5 then (match q with
    | [] => []
    | x :: r => (!x) :: r) else (match q with
    | y :: x :: r => (if p.1 = 6 then x && y else x || y) :: r
    | _ => [])
def evP (P : List st3) (s : List Int) (q : List Bool) : List Bool := P.foldl (stP s) q
/-- whether a term (or none: no steps) holds -/
def evT (P : List st3) (s : List Int) : Bool := (evP P s []).headD false
def ocA (w u : List st3) (s : List Int) : Int := if evT w s = true then 1 else if evT u s = true then 2 else 0
/-- the steps of a term of the class -/
def pst (M : zM) : Nat → Nat → List st3
  | 0, _ => []
  | d + 1, k => if gi M k 0 = 0 then [(0, gi M k 1, gi M k 3)] else if gi M k 0 < 3 then [(gi M k 0, gi M k 1, gi M k 2)] else if gi M k 0 < 5 then [(gi M k 0, gi M k 3, 0)]
    else if gi M k 0 = 5 then (match gr M k 4 with
      | none => []
      | some x => pst M d x ++ [(5, 0, 0)])
    else (match gr M k 4, gr M k 5 with
      | some x, some y => pst M d x ++ pst M d y ++ [(gi M k 0, 0, 0)]
      | _, _ => [])
def okTm (M : zM) : Prop := ∀ k, 88 ≤ k → k < gn M → (0 ≤ gi M k 0 ∧ gi M k 0 ≤ 7) ∧ (1 ≤ gi M k 6 ∧ gi M k 6 ≤ 6) ∧ (5 ≤ gi M k 0 → ∃ x, gr M k 4 = some x ∧ x < gn M ∧ gi M x 6 < gi M k 6) ∧ (6 ≤ gi M k 0 → ∃ y, gr M k 5 = some y ∧ y < gn M ∧ gi M y 6 < gi M k 6)
theorem evP_app {P Q : List st3} {s : List Int} {q : List Bool} : evP (P ++ Q) s q = evP Q s (evP P s q) := by unfold evP; rw [List.foldl_append]
theorem pst_ev {M : zM} (hR : okR M) (hT : okTm M) (s : List Int) : ∀ (d k : Nat), 88 ≤ k → k < gn M → gi M k 6 ≤ d → ∀ q, evP (pst M d k) s q = tvl M d (some k) s :: q := by
  intro d
  induction d with
  | zero =>
    intro k h1 h2 h3
    have := (hT k h1 h2).2.1
    omega
  | succ d ih =>
    intro k h1 h2 h3 q
    obtain ⟨⟨a0, a7⟩, hl, h5, h6⟩ := hT k h1 h2
    unfold pst tvl
    by_cases c0 : gi M k 0 = 0
    · rw [if_pos c0, if_pos c0]
      simp [evP, stP, atP]
    · rw [if_neg c0, if_neg c0]
      by_cases c3 : gi M k 0 < 3
      · rw [if_pos c3]
        have e : gi M k 0 = 1 ∨ gi M k 0 = 2 := by omega
        rcases e with e | e <;> simp [e, evP, stP, atP]
      · rw [if_neg c3]
        by_cases c5 : gi M k 0 < 5
        · rw [if_pos c5]
          have e : gi M k 0 = 3 ∨ gi M k 0 = 4 := by omega
          rcases e with e | e <;> simp [e, evP, stP, atP]
        · rw [if_neg c5, if_neg (by omega : ¬ gi M k 0 = 1), if_neg (by omega : ¬ gi M k 0 = 2), if_neg (by omega : ¬ gi M k 0 = 3), if_neg (by omega : ¬ gi M k 0 = 4)]
          obtain ⟨x, x1, x2, x3⟩ := h5 (by omega)
          have hx := ih x (hR k 4 x x1) x2 (by omega)
          by_cases e5 : gi M k 0 = 5
          · rw [if_pos e5, if_pos e5, x1]
            dsimp only
            rw [evP_app, hx]
            simp [evP, stP]
          · rw [if_neg e5, if_neg e5]
            obtain ⟨y, y1, y2, y3⟩ := h6 (by omega)
            have hy := ih y (hR k 5 y y1) y2 (by omega)
            rw [x1, y1]
            dsimp only
            rw [evP_app, evP_app, hx, hy]
            have e : gi M k 0 = 6 ∨ gi M k 0 = 7 := by omega
            rcases e with e | e <;> simp [e, evP, stP]
theorem pst_cg {M M' : zM} (hR : okR M) (e1 : ∀ k, 88 ≤ k → k < gn M → gi M' k = gi M k) (e2 : ∀ k, 88 ≤ k → k < gn M → gr M' k = gr M k) (hT : okTm M) : ∀ (d k : Nat), 88 ≤ k → k < gn M → pst M' d k = pst M d k := by
  intro d
  induction d with
  | zero => intro k _ _; rfl
  | succ d ih =>
    intro k h1 h2
    obtain ⟨⟨a0, a7⟩, hl, h5, h6⟩ := hT k h1 h2
    unfold pst
    rw [e1 k h1 h2, e2 k h1 h2]
    by_cases c5 : gi M k 0 < 5
    · by_cases c0 : gi M k 0 = 0
      · rw [if_pos c0, if_pos c0]
      · rw [if_neg c0, if_neg c0]
        by_cases c3 : gi M k 0 < 3
        · rw [if_pos c3, if_pos c3]
        · rw [if_neg c3, if_neg c3, if_pos c5, if_pos c5]
    · obtain ⟨x, x1, x2, x3⟩ := h5 (by omega)
      rw [x1]
      dsimp only
      rw [ih x (hR k 4 x x1) x2]
      by_cases e5 : gi M k 0 = 5
      · rw [if_pos e5]
        simp [e5]
      · obtain ⟨y, y1, y2, y3⟩ := h6 (by omega)
        rw [y1]
        dsimp only
        simp only [ih x (hR k 4 x x1) x2, ih y (hR k 5 y y1) y2]
/-- a term of the class: its steps, its depth -/
def TMX (M : zM) (k : Nat) (t : List st3 × Int) : Prop := 88 ≤ k ∧ k < gn M ∧ pst M 6 k = t.1 ∧ gi M k 6 = t.2
def mkX (M : zM) (q : Nat) (P : List st3) : Prop := match gr M 5 q with
  | none => P = []
  | some k => ∃ d, TMX M k (P, d)
theorem mkX.ev {M : zM} {q : Nat} {P : List st3} (hR : okR M) (hT : okTm M) (h : mkX M q P) (s : List Int) : tvl M 6 (gr M 5 q) s = evT P s := by
  unfold mkX at h
  cases hq : gr M 5 q with
  | none =>
    rw [hq] at h
    dsimp only at h
    rw [h]
    rfl
  | some k =>
    rw [hq] at h
    obtain ⟨d, h1, h2, h3, h4⟩ := h
    dsimp only at h3 h4
    have := pst_ev hR hT s 6 k h1 h2 (hT k h1 h2).2.1.2 []
    unfold evT
    rw [← h3, this]
    rfl
/-- a grammar that is kept: itself, the order of its rules, how many, the start, which may match nothing -/
abbrev GC : Type := zG × (Nat → Nat) × Nat × Nat × (Nat → Bool)
def GX (M : zM) (G : Option GC) : Prop := match G with
  | none => gi M 8 0 = 0
  | some c => ¬ gi M 8 0 = 0 ∧ GG c.1 c.2.1 c.2.2.1 c.2.2.2.1 c.2.2.2.2 ∧ XG M c.1 c.2.1 c.2.2.1 c.2.2.2.1 c.2.2.2.2 ∧ IMx M c.1 c.2.1 c.2.2.2.2
noncomputable def prG (G : Option GC) (s : List Int) : Option (List nd) := match G with
  | none => none
  | some c => prs c.1 c.2.1 c.2.2.2.2 c.2.2.2.1 s
/-- the class's cells: the typed text, what is typed for a grammar, the stack, the marks, the grammar, what asking goes by, whether it remembers, how many reductions -/
def XS (M : zM) (ty wr : List Int) (sk : List (List st3 × Int)) (w u : List st3) (G : Option GC) (j : JS) (on rd : Int) : Prop :=
  (tT M 1 ty ∧ okS ty) ∧ (gi M 0 2 = (wr.length : Int) ∧ wr.length ≤ 60 ∧ zA M 3 wr ∧ ∀ x ∈ wr, isGs x = true) ∧ (gi M 0 4 = (sk.length : Int) ∧ sk.length ≤ 6 ∧ ∀ (i : Nat) (t : List st3 × Int), sk[i]? = some t → ∃ k, gr M 4 i = some k ∧ TMX M k t) ∧
  (mkX M 0 w ∧ mkX M 1 u) ∧ JX M on j ∧ gi M 0 10 = rd ∧ (IBm M ∧ GX M G) ∧ okR M ∧ okTm M ∧ 88 ≤ gn M ∧ (on = 0 ∨ on = 1) ∧ (j.2.2.2.2 = 0 ∨ j.2.2.2.2 = 1)
theorem XS.oc {M : zM} {ty wr : List Int} {sk : List (List st3 × Int)} {w u : List st3} {G : Option GC} {j : JS} {on rd : Int} (h : XS M ty wr sk w u G j on rd) : ocX M = ocA w u := by
  obtain ⟨-, -, -, ⟨h1, h2⟩, -, -, -, hR, hT, -⟩ := h
  funext s
  unfold ocX ocA
  rw [h1.ev hR hT, h2.ev hR hT]
/-- cells of the other side stay -/
def FX (M M' : zM) : Prop := ∀ a, 45 ≤ a → a < 88 → gi M' a = gi M a
theorem FX.rf {M : zM} : FX M M := fun _ _ _ => rfl
theorem FX.tr {M M' M2 : zM} (h : FX M M') (h' : FX M' M2) : FX M M2 := fun a h1 h2 => (h' a h1 h2).trans (h a h1 h2)
theorem zSm.fx {S : List Nat} {M M' : zM} (h : zSm S M M') (hd : ∀ a ∈ S, a < 45 ∨ 88 ≤ a) : FX M M' := fun a h1 h2 => h.ge (fun q => by have := hd a q; omega)
/-- what doesn't touch terms, stack and marks -/
theorem TMX.fr {S : List Nat} {M M' : zM} {k : Nat} {t : List st3 × Int} (hR : okR M) (hT : okTm M) (h : TMX M k t) (hs : zSm S M M') (hd : ∀ a ∈ S, a < 88) : TMX M' k t := by
  obtain ⟨h1, h2, h3, h4⟩ := h
  have e : ∀ k, 88 ≤ k → gi M' k = gi M k := fun k hk => hs.ge (fun q => by have := hd k q; omega)
  refine ⟨h1, by rw [hs.2.2]; exact h2, ?_, by rw [e k h1]; exact h4⟩
  rw [pst_cg hR (fun k hk _ => e k hk) (fun k _ _ => by rw [hs.2.1]) hT 6 k h1 h2]
  exact h3
theorem okTm.fr {S : List Nat} {M M' : zM} (h : okTm M) (hR : okR M) (hs : zSm S M M') (hd : ∀ a ∈ S, a < 88) : okTm M' := by
  have e : ∀ k, 88 ≤ k → gi M' k = gi M k := fun k hk => hs.ge (fun q => by have := hd k q; omega)
  intro k h1 h2
  rw [hs.2.2] at h2 ⊢
  obtain ⟨a, b, c, d⟩ := h k h1 h2
  rw [e k h1, hs.2.1]
  refine ⟨a, b, fun q => ?_, fun q => ?_⟩
  · obtain ⟨x, x1, x2, x3⟩ := c q
    exact ⟨x, x1, x2, by rw [e x (hR k 4 x x1)]; exact x3⟩
  · obtain ⟨x, x1, x2, x3⟩ := d q
    exact ⟨x, x1, x2, by rw [e x (hR k 5 x x1)]; exact x3⟩
theorem mkX.fr {S : List Nat} {M M' : zM} {q : Nat} {P : List st3} (hR : okR M) (hT : okTm M) (h : mkX M q P) (hs : zSm S M M') (hd : ∀ a ∈ S, a < 88) : mkX M' q P := by
  unfold mkX at *
  rw [hs.2.1]
  cases hq : gr M 5 q with
  | none => rw [hq] at h; exact h
  | some k =>
    rw [hq] at h
    obtain ⟨d, h⟩ := h
    exact ⟨d, h.fr hR hT hs hd⟩
theorem GX.fr {S : List Nat} {M M' : zM} {G : Option GC} (h : GX M G) (hs : zSm S M M') (hd : ∀ a ∈ S, a < 8 ∨ 23 < a) : GX M' G := by
  have e : ∀ a, 8 ≤ a → a ≤ 23 → gi M' a = gi M a := fun a h1 h2 => hs.ge (fun q => by have := hd a q; omega)
  unfold GX at *
  cases G with
  | none => dsimp only at *; rw [e 8 (by decide) (by decide)]; exact h
  | some c =>
    dsimp only at *
    obtain ⟨h1, h2, h3, h4⟩ := h
    exact ⟨by rw [e 8 (by decide) (by decide)]; exact h1, h2, h3.fr hs (fun a ha => by have := hd a ha; omega), h4.same (fun a q1 q2 => e a (by omega) q2)⟩
