/-! ===== the order of the rules; tables that are right so far ===== -/
/-- the forerunners of the i-th rule of the order -/
def FR (ord : Nat → Nat) (i : Nat) (r : Nat) : Prop := ∃ j, j < i ∧ ord j = r
def OG (g : zG) (ord : Nat → Nat) (n : Nat) (em : Nat → Bool) : Prop :=
  (∀ i, i < n → ord i < 6 ∧ 0 ≤ gR g (ord i)) ∧ (∀ i j, i < n → j < n → ord i = ord j → i = j) ∧ (∀ r, r < 6 → 0 ≤ gR g r → ∃ i, i < n ∧ ord i = r) ∧
  (∀ i, i < n → ∀ b : Nat, gR g (ord i) ≤ b → (b : Int) < gE g (ord i) → LD g em (FR ord i) (gF g (b + 1) - gF g b).toNat (gF g b).toNat) ∧
  (∀ r, r < 6 → 0 ≤ gR g r → ∀ b : Nat, gR g r ≤ b → (b : Int) < gE g r → (∀ i, i < (gF g (b + 1) - gF g b).toNat → gV g em ((gF g b).toNat + i) = true) → em r = true)
def GD (E b al : tE) (g : zG) (ch : Nat → Int) (r l : Nat) : Prop := E r l = rva (rmt E g ch r (l : Int)) ∧ ∀ a e L, rmt E g ch r (l : Int) = some (a, e, L) → b r l = cnt b g 0 L ∧ al r l = a
def Dn (g : zG) (ord : Nat → Nat) (l0 k0 : Nat) (r l : Nat) : Prop := (l < l0 ∧ r < 6 ∧ 0 ≤ gR g r) ∨ (l = l0 ∧ FR ord k0 r)
def SAT (E b al : tE) (g : zG) (ch : Nat → Int) (ord : Nat → Nat) (em : Nat → Bool) (l0 k0 : Nat) : Prop := ∀ r l, Dn g ord l0 k0 r l → GD E b al g ch r l ∧ (E r l = l → em r = true)
theorem cnt_cg {b b' : tE} {g : zG} (L : List tk) : ∀ c : Int, (∀ p ∈ L, nm (gI g p.1) < 6 → b' (nm (gI g p.1)).toNat p.2.2.1.toNat = b (nm (gI g p.1)).toNat p.2.2.1.toNat) → cnt b' g c L = cnt b g c L := by
  induction L with
  | nil => intro c _; rfl
  | cons p L ih =>
    intro c h
    have e : nofk b' g p.1 p.2.2.1 = nofk b g p.1 p.2.2.1 := by
      unfold nofk
      split
      · next q => rw [h p List.mem_cons_self q]
      · rfl
    show cnt b' g (cap (c + nofk b' g p.1 p.2.2.1)) L = cnt b g (cap (c + nofk b g p.1 p.2.2.1)) L
    rw [e]
    exact ih _ (fun q hq => h q (List.mem_cons_of_mem _ hq))
section ST
variable {E E' b b' al al' : tE} {g : zG} {ch ch' : Nat → Int} {ord : Nat → Nat} {em : Nat → Bool} {n : Nat}
/-- what a rule of the order reads -/
theorem rmt_cg (hT : TB E) (h0 : ch 0 < 0) (hw : WG g) (ho : OG g ord n em) {i : Nat} (hi : i < n) {l : Nat} (hE : ∀ r l', Al g (FR ord i) l r l' → E' r l'.toNat = E r l'.toNat) (hc : ∀ x : Int, x ≤ l → ch' x.toNat = ch x.toNat) (hem : ∀ r, FR ord i r → E r l = l → em r = true) :
    rmt E' g ch' (ord i) l = rmt E g ch (ord i) l ∧ ∀ a e L, rmt E g ch (ord i) l = some (a, e, L) → (gR g (ord i) ≤ a ∧ (a : Int) < gE g (ord i)) ∧ (0 ≤ e ∧ e ≤ l) ∧ (∀ p ∈ L, ((gF g a).toNat ≤ p.1 ∧ (p.1 : Int) < gF g (a + 1) ∧ 0 ≤ p.2.2.1 ∧ p.2.2.1 ≤ l) ∧ (nm (gI g p.1) < 6 → Al g (FR ord i) l (nm (gI g p.1)).toNat p.2.2.1)) ∧ (e = l → em (ord i) = true) := by
  have hr := ho.1 i hi
  have hwr := hw.2.2.2.2.2 (ord i) hr.1
  have h := rms_cg (E := E) (E' := E') (g := g) (ch := ch) (ch' := ch') (bf := FR ord i) (em := em) (l := l) hT h0 hw hE hc (fun r q1 q2 => hem r q1 (by simpa using q2)) (by omega) (gE g (ord i) - gR g (ord i)).toNat (gR g (ord i)).toNat (by omega) (fun q h1 h2 => ho.2.2.2.1 i hi q (by omega) (by omega))
  unfold rmt
  rw [if_neg (by omega), if_neg (by omega)]
  refine ⟨h.1, fun a e L he => ?_⟩
  obtain ⟨f1, f2, f3, f4⟩ := h.2 a e L he
  exact ⟨by omega, f2, f3, fun q => ho.2.2.2.2 (ord i) hr.1 hr.2 a (by omega) (by omega) (f4 q)⟩
theorem SAT.row {l : Nat} (ho : OG g ord n em) (h : SAT E b al g ch ord em l n) : SAT E b al g ch ord em (l + 1) 0 := by
  intro r x hd
  rcases hd with ⟨h1, h2, h3⟩ | ⟨_, j, hj, _⟩
  · by_cases e : x = l
    · obtain ⟨i, hi, hr⟩ := ho.2.2.1 r h2 h3
      exact h r x (Or.inr ⟨e, i, hi, hr⟩)
    · exact h r x (Or.inl ⟨by omega, h2, h3⟩)
  · omega
/-- each rule that is done has a place in the order, and its forerunners are done -/
theorem Dn.ix (ho : OG g ord n em) {l0 k0 r l : Nat} (hk : k0 ≤ n) (h : Dn g ord l0 k0 r l) : ∃ i, i < n ∧ ord i = r ∧ (l < l0 ∨ (l = l0 ∧ i < k0)) ∧ ∀ q, FR ord i q → Dn g ord l0 k0 q l := by
  rcases h with ⟨h1, h2, h3⟩ | ⟨h1, i, hi, hr⟩
  · obtain ⟨i, hi, hr⟩ := ho.2.2.1 r h2 h3
    refine ⟨i, hi, hr, Or.inl h1, fun q hq => ?_⟩
    obtain ⟨j, hj, rfl⟩ := hq
    have := ho.1 j (by omega)
    exact Or.inl ⟨h1, this.1, this.2⟩
  · refine ⟨i, by omega, hr, Or.inr ⟨h1, hi⟩, fun q hq => ?_⟩
    obtain ⟨j, hj, rfl⟩ := hq
    exact Or.inr ⟨h1, j, by omega, rfl⟩
/-- another text with the same end -/
theorem SAT.text {l0 : Nat} (hT : TB E) (h0 : ch 0 < 0) (hw : WG g) (ho : OG g ord n em) (h : SAT E b al g ch ord em l0 0) {m : Nat} (hm : m ≤ l0) (hc : ∀ x : Nat, x < m → ch' x = ch x) : SAT E b al g ch' ord em m 0 := by
  intro r l hd
  have hd0 : Dn g ord l0 0 r l := by
    rcases hd with ⟨h1, h2, h3⟩ | ⟨_, j, hj, _⟩
    · exact Or.inl ⟨by omega, h2, h3⟩
    · omega
  have hlm : l < m := by
    rcases hd with ⟨h1, _⟩ | ⟨_, j, hj, _⟩
    · exact h1
    · omega
  obtain ⟨i, hi, rfl, -, hf⟩ := hd0.ix ho (by omega)
  have hq := rmt_cg (E := E) (E' := E) (ch := ch) (ch' := ch') hT h0 hw ho hi (l := l) (fun _ _ _ => rfl) (fun x hx => hc x.toNat (by omega)) (fun q hq he => (h q l (hf q hq)).2 he)
  obtain ⟨⟨g1, g2⟩, g3⟩ := h _ _ hd0
  refine ⟨⟨?_, fun a e L he => ?_⟩, g3⟩
  · rw [hq.1]; exact g1
  · rw [hq.1] at he; exact g2 a e L he
/-- one more entry -/
theorem SAT.step {l k : Nat} {b1 : tE} {E0 : tE} (hT : TB E) (hT0 : TB E0) (hT' : TB E') (h0 : ch 0 < 0) (hw : WG g) (ho : OG g ord n em) (hk : k < n) (h : SAT E b al g ch ord em l k)
    (hE : ∀ r x, x ≤ l → ¬ (r = ord k ∧ x = l) → E' r x = E r x) (hE0 : ∀ r x, x ≤ l → ¬ (r = ord k ∧ x = l) → E0 r x = E r x) (hb : ∀ r x, x ≤ l → ¬ (r = ord k ∧ x = l) → b' r x = b r x) (hb1 : ∀ r x, x ≤ l → ¬ (r = ord k ∧ x = l) → b1 r x = b r x) (hal : ∀ r x, x ≤ l → ¬ (r = ord k ∧ x = l) → al' r x = al r x)
    (e1 : E' (ord k) l = rva (rmt E0 g ch (ord k) l)) (e2 : ∀ a e L, rmt E0 g ch (ord k) l = some (a, e, L) → al' (ord k) l = a ∧ b' (ord k) l = cnt b1 g 0 L) : SAT E' b' al' g ch ord em l (k + 1) := by
  have hne : ∀ {i : Nat} {r x : Nat}, i < n → (x < l ∨ (x = l ∧ i ≤ k)) → (∀ y : Int, Al g (FR ord i) x r y → ¬ (r = ord k ∧ y.toNat = l) ∧ y.toNat ≤ l) := by
    intro i r x hi hx y hy
    rcases hy with ⟨-, ⟨y1, y2⟩ | ⟨y1, j, hj, rfl⟩⟩
    · refine ⟨fun q => ?_, ?_⟩ <;> omega
    · refine ⟨fun q => ?_, by omega⟩
      have := ho.2.1 j k (by omega) hk q.1
      omega
  intro r x hd
  by_cases hnew : r = ord k ∧ x = l
  · obtain ⟨rfl, rfl⟩ := hnew
    have hemE : ∀ q, FR ord k q → E0 q x = x → em q = true := fun q hq he => by
      obtain ⟨j, hj, rfl⟩ := hq
      have : ¬ (ord j = ord k ∧ x = x) := fun z => by
        have := ho.2.1 j k (by omega) hk z.1
        omega
      rw [hE0 _ _ (Nat.le_refl _) this] at he
      exact (h (ord j) x (Or.inr ⟨rfl, j, hj, rfl⟩)).2 he
    have hq := rmt_cg (E := E0) (E' := E') (ch := ch) (ch' := ch) hT0 h0 hw ho hk (l := x) (fun q y hy => by
      obtain ⟨z1, z2⟩ := hne hk (Or.inr ⟨rfl, Nat.le_refl _⟩) y hy
      rw [hE q _ z2 z1, hE0 q _ z2 z1]) (fun _ _ => rfl) hemE
    refine ⟨⟨?_, fun a e L he => ?_⟩, fun he => ?_⟩
    · rw [hq.1]; exact e1
    · rw [hq.1] at he
      obtain ⟨z1, z2⟩ := e2 a e L he
      refine ⟨?_, z1⟩
      rw [z2]
      refine cnt_cg L 0 (fun p hp hp6 => ?_)
      obtain ⟨w1, w2⟩ := hne hk (Or.inr ⟨rfl, Nat.le_refl _⟩) _ (((hq.2 a e L he).2.2.1 p hp).2 hp6)
      rw [hb _ _ w2 w1, hb1 _ _ w2 w1]
    · rw [e1] at he
      cases hr : rmt E0 g ch (ord k) x with
      | none => rw [hr] at he; simp only [rva] at he; omega
      | some p =>
        obtain ⟨a, e, L⟩ := p
        rw [hr] at he
        exact (hq.2 a e L hr).2.2.2 he
  · have hd0 : Dn g ord l k r x := by
      rcases hd with h1 | ⟨h1, j, hj, h2⟩
      · exact Or.inl h1
      · refine Or.inr ⟨h1, j, ?_, h2⟩
        by_cases e : j = k
        · exact absurd ⟨by rw [← h2, e], h1⟩ hnew
        · omega
    obtain ⟨i, hi, rfl, hix, hf⟩ := hd0.ix ho (by omega)
    have hxl : x < l ∨ (x = l ∧ i ≤ k) := by omega
    have hx2 : x ≤ l := by omega
    have hq := rmt_cg (E := E) (E' := E') (ch := ch) (ch' := ch) hT h0 hw ho hi (l := x) (fun q y hy => by
      obtain ⟨z1, z2⟩ := hne hi hxl y hy
      exact hE q _ z2 z1) (fun _ _ => rfl) (fun q hq he => (h q x (hf q hq)).2 he)
    obtain ⟨⟨g1, g2⟩, g3⟩ := h _ _ hd0
    refine ⟨⟨?_, fun a e L he => ?_⟩, fun he => ?_⟩
    · rw [hq.1, hE _ _ hx2 hnew]; exact g1
    · rw [hq.1] at he
      obtain ⟨z1, z2⟩ := g2 a e L he
      rw [hb _ _ hx2 hnew, hal _ _ hx2 hnew]
      refine ⟨?_, z2⟩
      rw [z1]
      exact (cnt_cg L 0 (fun p hp hp6 => by
        obtain ⟨w1, w2⟩ := hne hi hxl _ (((hq.2 a e L he).2.2.1 p hp).2 hp6)
        exact hb _ _ w2 w1)).symm
    · rw [hE _ _ hx2 hnew] at he; exact g3 he
end ST
