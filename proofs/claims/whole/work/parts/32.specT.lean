/-! ===== the tree ===== -/
/-- a node: rule, loose, begin, size, depth, the node above -/
abbrev nd : Type := Int × Int × Int × Int × Int × Int
def loo (E : tE) (g : zG) (ch : Nat → Int) (p : tk) : Int := if (gS g p.1 = 42 ∨ gS g p.1 = 63) ∨ ((gS g p.1 = 42 ∨ gS g p.1 = 43) ∧ (1 < p.2.1 + 1 ∨ 0 ≤ mor E g ch p.1 (p.2.1 + 1) p.2.2.2)) then 1 else 0
def tkn (E : tE) (g : zG) (ch : Nat → Int) (n d par : Int) (p : tk) : nd := (nm (gI g p.1), loo E g ch p, n - p.2.2.1, p.2.2.1 - p.2.2.2, d, par)
def tkl (sub : Nat → Int → Int → Int → List nd) (E : tE) (g : zG) (ch : Nat → Int) (n d par : Int) : List tk → Int → List nd
  | [], _ => []
  | p :: L, i => if nm (gI g p.1) < 6 then tkn E g ch n d par p :: (sub (nm (gI g p.1)).toNat p.2.2.1 i (i + 1) ++ tkl sub E g ch n d par L (i + 1 + (sub (nm (gI g p.1)).toNat p.2.2.1 i (i + 1)).length))
      else if gS g p.1 = 0 then tkl sub E g ch n d par L i else tkn E g ch n d par p :: tkl sub E g ch n d par L (i + 1)
def lst (o : Option (Nat × Int × List tk)) : List tk := match o with
  | none => []
  | some p => p.2.2
/-- the nodes below one of a rule: fuel, rule, what is left, their depth, its number, the first number -/
def tn (E : tE) (g : zG) (ch : Nat → Int) (n : Int) : Nat → Nat → Int → Int → Int → Int → List nd
  | 0, _, _, _, _, _ => []
  | f + 1, r, l, d, par, i => tkl (fun r' l' par' i' => tn E g ch n f r' l' (d + 1) par' i') E g ch n d par (lst (rmt E g ch r l)) i
def KY (ord : Nat → Nat) (n : Nat) (r : Nat) (l : Int) (f : Nat) : Prop := ∃ i, i < n ∧ ord i = r ∧ 0 ≤ l ∧ 7 * l.toNat + i < f
section TN
variable {E E' b b' al al' : tE} {g : zG} {ch ch' : Nat → Int} {ord : Nat → Nat} {em : Nat → Bool} {n : Nat}
theorem tks_el (f : Nat) : ∀ (k : Nat) (t l : Int), ∀ p ∈ tks E g ch k f t l, p.2.2.2 = mor E g ch p.1 p.2.1 p.2.2.1 ∧ 0 ≤ p.2.2.2 := by
  induction f with
  | zero => intro k t l p hp; cases hp
  | succ f ih =>
    intro k t l p hp
    unfold tks at hp
    split at hp
    · cases hp
    · rcases List.mem_cons.mp hp with rfl | hp
      · exact ⟨rfl, by dsimp only; omega⟩
      · exact ih k _ _ p hp
theorem alt_el (m : Nat) : ∀ (k : Nat) (l : Int) (e : Int) (L : List tk), alt E g ch m k l = some (e, L) → ∀ p ∈ L, p.2.2.2 = mor E g ch p.1 p.2.1 p.2.2.1 ∧ 0 ≤ p.2.2.2 := by
  induction m with
  | zero =>
    intro k l e L h p hp
    simp only [alt, Option.some.injEq, Prod.mk.injEq] at h
    rw [← h.2] at hp
    cases hp
  | succ m ih =>
    intro k l e L h p hp
    unfold alt at h
    split at h
    · cases h
    · cases hq : alt E g ch m (k + 1) (enL l (tks E g ch k 33 0 l)) with
      | none => rw [hq] at h; cases h
      | some q =>
        rw [hq] at h
        simp only [Option.map_some, Option.some.injEq, Prod.mk.injEq] at h
        rw [← h.2] at hp
        rcases List.mem_append.mp hp with hp | hp
        · exact tks_el _ _ _ _ p hp
        · exact ih _ _ q.1 q.2 hq p hp
theorem rms_el (m : Nat) : ∀ (a : Nat) (l : Int) (b : Nat) (e : Int) (L : List tk), rms E g ch l m a = some (b, e, L) → ∀ p ∈ L, p.2.2.2 = mor E g ch p.1 p.2.1 p.2.2.1 ∧ 0 ≤ p.2.2.2 := by
  induction m with
  | zero => intro a l b e L h; cases h
  | succ m ih =>
    intro a l b e L h
    unfold rms at h
    cases hq : alt E g ch (gF g (a + 1) - gF g a).toNat (gF g a).toNat l with
    | none => rw [hq] at h; exact ih _ _ _ _ _ h
    | some q =>
      rw [hq] at h
      simp only [Option.some.injEq, Prod.mk.injEq] at h
      exact alt_el _ _ _ e L (by rw [hq, h.2])
theorem mor_onc {k : Nat} {t l : Int} (h : 0 ≤ mor E g ch k t l) : mor E g ch k t l = onc E g ch k l := by
  unfold mor at *
  split at h
  · omega
  · split at h
    · omega
    · next h1 h2 => rw [if_neg h1, if_neg h2]
/-- all that is known of a taking of a rule of the order -/
theorem lst_ok (hT : TB E) (h0 : ch 0 < 0) (hw : WG g) (hn : NG g) (hog : OG g ord n em) (hn6 : n ≤ 6) {l0 : Nat} (hs : SAT E b al g ch ord em l0 0) {i l : Nat} (hi : i < n) (hl : l < l0) : ∀ p ∈ lst (rmt E g ch (ord i) l), (p.1 : Int) < gN g ∧ 0 ≤ p.2.2.2 ∧ p.2.2.2 ≤ p.2.2.1 ∧ p.2.2.1 ≤ l ∧ (nm (gI g p.1) < 6 → Al g (FR ord i) l (nm (gI g p.1)).toNat p.2.2.1 ∧ p.2.2.2 = E (nm (gI g p.1)).toNat p.2.2.1.toNat ∧ ∃ j, j < n ∧ ord j = (nm (gI g p.1)).toNat ∧ ∀ f, 7 * l + i < f + 1 → 7 * p.2.2.1.toNat + j < f) := by
  intro p hp
  cases ho : rmt E g ch (ord i) l with
  | none => rw [ho] at hp; cases hp
  | some q =>
    obtain ⟨a, e, L⟩ := q
    rw [ho] at hp
    have hr := hog.1 i hi
    have hwr := hw.2.2.2.2.2 (ord i) hr.1
    have hq := rmt_cg (E := E) (E' := E) (ch := ch) (ch' := ch) hT h0 hw hog hi (l := l) (fun _ _ _ => rfl) (fun _ _ => rfl) (fun q hq he => by
      obtain ⟨j, hj, rfl⟩ := hq
      have hrj := hog.1 j (by omega)
      exact (hs (ord j) l (Or.inl ⟨hl, hrj.1, hrj.2⟩)).2 he)
    obtain ⟨f1, f2, f3, -⟩ := hq.2 a e L ho
    have hel : p.2.2.2 = mor E g ch p.1 p.2.1 p.2.2.1 ∧ 0 ≤ p.2.2.2 := by
      unfold rmt at ho
      rw [if_neg (by omega)] at ho
      exact rms_el _ _ _ _ _ _ ho p hp
    obtain ⟨⟨g1, g2, g3, g4⟩, g5⟩ := f3 p hp
    have hgF := hw.2.2.2.2.1 (a + 1) (by omega)
    have hk : (p.1 : Int) < gN g := by omega
    have hm := mor_bd (t := p.2.1) hT h0 hw hk g3
    refine ⟨hk, hel.2, by omega, g4, fun h6 => ⟨g5 h6, ?_, ?_⟩⟩
    · rw [hel.1, mor_onc (by omega)]
      unfold onc
      rw [if_pos h6]
    · have hnm := nm_bd (gI g p.1)
      have hdef : 0 ≤ gR g (nm (gI g p.1)).toNat := by
        have := hn p.1 hk (nm_lt.mp h6)
        rw [nm_eq (nm_lt.mp h6)]
        exact this
      rcases (g5 h6).2 with h | ⟨h, j, hj, hj2⟩
      · obtain ⟨j, hj, hj2⟩ := hog.2.2.1 (nm (gI g p.1)).toNat (by omega) hdef
        exact ⟨j, hj, hj2, fun f hf => by omega⟩
      · exact ⟨j, by omega, hj2, fun f hf => by omega⟩
theorem tkl_len (sub sub' : Nat → Int → Int → Int → List nd) (d d' par par' : Int) (L : List tk) : ∀ (i i' : Int), (∀ p ∈ L, nm (gI g p.1) < 6 → ∀ q q' j j', (sub (nm (gI g p.1)).toNat p.2.2.1 q j).length = (sub' (nm (gI g p.1)).toNat p.2.2.1 q' j').length) → ∀ m m' : Int, (tkl sub E g ch m d par L i).length = (tkl sub' E g ch m' d' par' L i').length := by
  induction L with
  | nil => intro i i' _ _ _; rfl
  | cons p L ih =>
    intro i i' h m m'
    unfold tkl
    have h2 := fun i i' => ih i i' (fun q hq => h q (List.mem_cons_of_mem _ hq)) m m'
    split
    · next h6 =>
      simp only [List.length_cons, List.length_append]
      rw [h p List.mem_cons_self h6 i i' (i + 1) (i' + 1), h2]
    · split
      · exact h2 _ _
      · simp only [List.length_cons]
        rw [h2]
theorem tn_len {m m' : Int} (f : Nat) : ∀ (r : Nat) (l d d' par par' i i' : Int), (tn E g ch m f r l d par i).length = (tn E g ch m' f r l d' par' i').length := by
  induction f with
  | zero => intros; rfl
  | succ f ih =>
    intro r l d d' par par' i i'
    unfold tn
    exact tkl_len _ _ _ _ _ _ _ _ _ (fun p _ _ q q' j j' => ih _ _ _ _ _ _ _ _) _ _
/-- fuel beyond the key adds nothing; tables that agree give the same tree -/
theorem tn_cg (hT : TB E) (h0 : ch 0 < 0) (hw : WG g) (hn : NG g) (hog : OG g ord n em) (hn6 : n ≤ 6) {l0 : Nat} (hs : SAT E b al g ch ord em l0 0) (hE : ∀ i l, i < n → l < l0 → rmt E' g ch (ord i) (l : Nat) = rmt E g ch (ord i) (l : Nat)) (hE2 : ∀ i l, i < n → l < l0 → E' (ord i) l = E (ord i) l) {m : Int} (f : Nat) : ∀ (f' i l : Nat) (d par j : Int), i < n → l < l0 → 7 * l + i < f → 7 * l + i < f' → tn E' g ch m f' (ord i) l d par j = tn E g ch m f (ord i) l d par j := by
  induction f with
  | zero => intro f' i l d par j hi hl hf hf'; omega
  | succ f ih =>
    intro f' i l d par j hi hl hf hf'
    cases f' with
    | zero => omega
    | succ f' =>
      unfold tn
      rw [hE i l hi hl]
      have hel := lst_ok hT h0 hw hn hog hn6 hs hi hl
      generalize lst (rmt E g ch (ord i) l) = L at hel
      have key : ∀ (L : List tk) (j : Int), (∀ p ∈ L, p ∈ L) → (∀ p ∈ L, loo E' g ch p = loo E g ch p) → (∀ p ∈ L, nm (gI g p.1) < 6 → ∀ q z, tn E' g ch m f' (nm (gI g p.1)).toNat p.2.2.1 (d + 1) q z = tn E g ch m f (nm (gI g p.1)).toNat p.2.2.1 (d + 1) q z) → tkl (fun r' l' par' i' => tn E' g ch m f' r' l' (d + 1) par' i') E' g ch m d par L j = tkl (fun r' l' par' i' => tn E g ch m f r' l' (d + 1) par' i') E g ch m d par L j := by
        intro L
        induction L with
        | nil => intro j _ _ _; rfl
        | cons p L ih2 =>
          intro j _ h1 h2
          unfold tkl
          have h3 := fun j => ih2 j (fun _ h => h) (fun q hq => h1 q (List.mem_cons_of_mem _ hq)) (fun q hq => h2 q (List.mem_cons_of_mem _ hq))
          have h4 : tkn E' g ch m d par p = tkn E g ch m d par p := by unfold tkn; rw [h1 p List.mem_cons_self]
          split
          · next h6 => rw [h2 p List.mem_cons_self h6, h3, h4]
          · split
            · exact h3 _
            · rw [h3, h4]
      refine key L j (fun _ h => h) (fun p hp => ?_) (fun p hp h6 q z => ?_)
      · obtain ⟨a1, a2, a3, a4, a5⟩ := hel p hp
        have : onc E' g ch p.1 p.2.2.2 = onc E g ch p.1 p.2.2.2 := by
          unfold onc
          split
          · next h6 =>
            obtain ⟨-, -, u, hu, hu2, -⟩ := a5 h6
            rw [← hu2]
            exact hE2 u _ hu (by omega)
          · rfl
        unfold loo mor
        rw [this]
      · obtain ⟨a1, a2, a3, a4, a5⟩ := hel p hp
        obtain ⟨-, -, u, hu, hu2, hu3⟩ := a5 h6
        have e : p.2.2.1 = ((p.2.2.1.toNat : Nat) : Int) := by omega
        have h := ih f' u p.2.2.1.toNat (d + 1) q z hu (by omega) (hu3 f hf) (hu3 f' hf')
        rw [hu2, ← e] at h
        exact h
/-- two right tables agree -/
theorem SAT.uniq (hT : TB E) (h0 : ch 0 < 0) (hw : WG g) (hn : NG g) (hog : OG g ord n em) {l0 : Nat} (hs : SAT E b al g ch ord em l0 0) (hs' : SAT E' b' al' g ch ord em l0 0) (hn6 : n ≤ 6) : ∀ (f i l : Nat), i < n → l < l0 → 7 * l + i < f → rmt E' g ch (ord i) (l : Nat) = rmt E g ch (ord i) (l : Nat) ∧ E' (ord i) l = E (ord i) l := by
  intro f
  induction f with
  | zero => intro i l hi hl hf; omega
  | succ f ih =>
    intro i l hi hl hf
    have hr := hog.1 i hi
    have hem : ∀ r, FR ord i r → E r l = l → em r = true := fun q hq he => by
      obtain ⟨j, hj, rfl⟩ := hq
      have hrj := hog.1 j (by omega)
      exact (hs (ord j) l (Or.inl ⟨hl, hrj.1, hrj.2⟩)).2 he
    have hq := rmt_cg (E := E) (E' := E') (ch := ch) (ch' := ch) hT h0 hw hog hi (l := l) (fun r y hy => by
      rcases hy with ⟨⟨k, hk, hk6, rfl⟩, ⟨y1, y2⟩ | ⟨y1, j, hj, hj2⟩⟩
      · have hnm := nm_bd (gI g k)
        have hdef : 0 ≤ gR g (nm (gI g k)).toNat := by
          have := hn k hk (nm_lt.mp hk6)
          rw [nm_eq (nm_lt.mp hk6)]
          exact this
        obtain ⟨j, hj, hj2⟩ := hog.2.2.1 (nm (gI g k)).toNat (by omega) hdef
        rw [← hj2]
        exact (ih j y.toNat hj (by omega) (by omega)).2
      · have e : y.toNat = l := by omega
        rw [e, ← hj2]
        exact (ih j l (by omega) hl (by omega)).2) (fun _ _ => rfl) hem
    refine ⟨hq.1, ?_⟩
    rw [(hs' _ _ (Or.inl ⟨hl, hr.1, hr.2⟩)).1.1, (hs _ _ (Or.inl ⟨hl, hr.1, hr.2⟩)).1.1, hq.1]
end TN
