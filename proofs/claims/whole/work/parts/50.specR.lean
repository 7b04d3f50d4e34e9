/-! ===== trees are well made ===== -/
def ndG (L : List nd) (k : Nat) : nd := L.getD k (0, 0, 0, 0, 0, 0)
def nR (p : nd) : Int := p.1
def nL (p : nd) : Int := p.2.1
def nB (p : nd) : Int := p.2.2.1
def nZ (p : nd) : Int := p.2.2.2.1
def nD (p : nd) : Int := p.2.2.2.2.1
def nP (p : nd) : Int := p.2.2.2.2.2
/-- numbers of a node of a text of n characters -/
def NB (n : Int) (p : nd) : Prop := (0 ≤ nR p ∧ nR p ≤ 6) ∧ (nL p = 0 ∨ nL p = 1) ∧ 0 ≤ nB p ∧ 0 ≤ nZ p ∧ nB p + nZ p ≤ n
/-- nodes of depth d or more, numbered from i on, that hang at par or at each other -/
def WN (n d par : Int) (i : Int) (L : List nd) : Prop := ∀ k, k < L.length → NB n (ndG L k) ∧ d ≤ nD (ndG L k) ∧ ((nP (ndG L k) = par ∧ nD (ndG L k) = d) ∨ ∃ q, q < k ∧ nP (ndG L k) = i + q ∧ nD (ndG L k) = nD (ndG L q) + 1)
def WT (n : Int) (L : List nd) : Prop := 1 ≤ L.length ∧ (∀ k, k < L.length → NB n (ndG L k)) ∧ nD (ndG L 0) = 0 ∧ nP (ndG L 0) = -1 ∧ ∀ k, 0 < k → k < L.length → 0 ≤ nP (ndG L k) ∧ nP (ndG L k) < k ∧ nD (ndG L k) = nD (ndG L (nP (ndG L k)).toNat) + 1 ∧ 1 ≤ nD (ndG L k)
theorem ndG_app1 {L1 L2 : List nd} {k : Nat} (h : k < L1.length) : ndG (L1 ++ L2) k = ndG L1 k := by
  unfold ndG
  simp only [List.getD]
  rw [List.getElem?_append_left h]
theorem ndG_app2 {L1 L2 : List nd} {k : Nat} (h : L1.length ≤ k) : ndG (L1 ++ L2) k = ndG L2 (k - L1.length) := by
  unfold ndG
  simp only [List.getD]
  rw [List.getElem?_append_right h]
theorem WN.nil {n d par i : Int} : WN n d par i [] := fun k hk => by simp at hk
theorem WN.app {n d par i : Int} {L1 L2 : List nd} (h1 : WN n d par i L1) (h2 : WN n d par (i + (L1.length : Nat)) L2) : WN n d par i (L1 ++ L2) := by
  intro k hk
  rw [List.length_append] at hk
  by_cases h : k < L1.length
  · rw [ndG_app1 h]
    obtain ⟨a, b, c⟩ := h1 k h
    refine ⟨a, b, ?_⟩
    rcases c with c | ⟨q, q1, q2, q3⟩
    · exact Or.inl c
    · exact Or.inr ⟨q, q1, q2, by rw [ndG_app1 (by omega)]; exact q3⟩
  · rw [ndG_app2 (by omega)]
    obtain ⟨a, b, c⟩ := h2 (k - L1.length) (by omega)
    refine ⟨a, b, ?_⟩
    rcases c with c | ⟨q, q1, q2, q3⟩
    · exact Or.inl c
    · refine Or.inr ⟨L1.length + q, by omega, by rw [q2]; omega, ?_⟩
      rw [ndG_app2 (by omega), show L1.length + q - L1.length = q from by omega]
      exact q3
/-- a node and what hangs below it -/
theorem WN.node {n d par i : Int} {p : nd} {L : List nd} (hp : NB n p) (hd : nD p = d) (hpar : nP p = par) (h : WN n (d + 1) i (i + 1) L) : WN n d par i (p :: L) := by
  intro k hk
  cases k with
  | zero => exact ⟨hp, by show d ≤ nD p; omega, Or.inl ⟨hpar, hd⟩⟩
  | succ k =>
    rw [List.length_cons] at hk
    have e : ndG (p :: L) (k + 1) = ndG L k := by unfold ndG; simp [List.getD]
    rw [e]
    obtain ⟨a, b, c⟩ := h k (by omega)
    refine ⟨a, by omega, Or.inr ?_⟩
    rcases c with ⟨c1, c2⟩ | ⟨q, q1, q2, q3⟩
    · exact ⟨0, by omega, by rw [c1]; omega, by rw [c2]; show d + 1 = nD p + 1; omega⟩
    · refine ⟨q + 1, by omega, by rw [q2]; omega, ?_⟩
      have e2 : ndG (p :: L) (q + 1) = ndG L q := by unfold ndG; simp [List.getD]
      rw [e2]
      exact q3
section WNs
variable {E b al : tE} {g : zG} {ch : Nat → Int} {ord : Nat → Nat} {em : Nat → Bool} {n : Nat}
theorem loo_bd {p : tk} : loo E g ch p = 0 ∨ loo E g ch p = 1 := by
  unfold loo
  split
  · exact Or.inr rfl
  · exact Or.inl rfl
theorem tkl_wn (sub : Nat → Int → Int → Int → List nd) {m : Int} {d par : Int} (L : List tk) : ∀ i : Int, (∀ p ∈ L, 0 ≤ p.2.2.2 ∧ p.2.2.2 ≤ p.2.2.1 ∧ p.2.2.1 ≤ m ∧ (nm (gI g p.1) < 6 → ∀ q z, WN m (d + 1) q z (sub (nm (gI g p.1)).toNat p.2.2.1 q z))) → WN m d par i (tkl sub E g ch m d par L i) := by
  induction L with
  | nil => intro i _; exact WN.nil
  | cons p L ih =>
    intro i h
    have h1 := h p List.mem_cons_self
    have h2 := fun i => ih i (fun q hq => h q (List.mem_cons_of_mem _ hq))
    have hb := nm_bd (gI g p.1)
    have hnb : NB m (tkn E g ch m d par p) := ⟨hb, loo_bd, by show 0 ≤ m - p.2.2.1; omega, by show 0 ≤ p.2.2.1 - p.2.2.2; omega, by show m - p.2.2.1 + (p.2.2.1 - p.2.2.2) ≤ m; omega⟩
    rw [tkl_cons]
    split
    · next h6 =>
      have h3 := WN.node (n := m) (d := d) (par := par) (i := i) (p := tkn E g ch m d par p) hnb rfl rfl (h1.2.2.2 h6 i (i + 1))
      have h4 := h3.app (L2 := tkl sub E g ch m d par L (i + 1 + (sub (nm (gI g p.1)).toNat p.2.2.1 i (i + 1)).length)) (by
        rw [List.length_cons, show i + (((sub (nm (gI g p.1)).toNat p.2.2.1 i (i + 1)).length + 1 : Nat) : Int) = i + 1 + (sub (nm (gI g p.1)).toNat p.2.2.1 i (i + 1)).length from by omega]
        exact h2 _)
      exact h4
    · split
      · exact h2 i
      · have h3 := WN.node (n := m) (d := d) (par := par) (i := i) (p := tkn E g ch m d par p) hnb rfl rfl (WN.nil (i := i + 1) (par := i))
        exact h3.app (h2 (i + 1))
theorem tn_wn (hT : TB E) (h0 : ch 0 < 0) (hw : WG g) (hn : NG g) (hog : OG g ord n em) (hn6 : n ≤ 6) {l0 : Nat} (hs : SAT E b al g ch ord em l0 0) {m : Nat} (hm : m < l0) : ∀ (f i l : Nat) (d par j : Int), i < n → l ≤ m → 7 * l + i < f → WN m d par j (tn E g ch m f (ord i) l d par j) := by
  intro f
  induction f with
  | zero => intro i l d par j _ _ h; omega
  | succ f ih =>
    intro i l d par j hi hl hf
    unfold tn
    have hel := lst_ok hT h0 hw hn hog hn6 hs hi (show l < l0 by omega)
    refine tkl_wn _ _ _ (fun p hp => ?_)
    obtain ⟨a1, a2, a3, a4, a5⟩ := hel p hp
    refine ⟨a2, a3, by omega, fun h6 q z => ?_⟩
    obtain ⟨-, -, u, hu, hu2, hu3⟩ := a5 h6
    have h := ih u p.2.2.1.toNat (d + 1) q z hu (by omega) (hu3 f hf)
    rw [hu2, show ((p.2.2.1.toNat : Nat) : Int) = p.2.2.1 from by omega] at h
    exact h
end WNs
theorem WT.of {n : Int} {p : nd} {L : List nd} (hp : NB n p) (hd : nD p = 0) (hpar : nP p = -1) (h : WN n 1 0 1 L) : WT n (p :: L) := by
  have hw : WN n 0 (-1) 0 (p :: L) := WN.node hp hd hpar h
  refine ⟨by simp, fun k hk => (hw k hk).1, hd, hpar, fun k hk0 hk => ?_⟩
  cases k with
  | zero => omega
  | succ k =>
    rw [List.length_cons] at hk
    have e : ndG (p :: L) (k + 1) = ndG L k := by unfold ndG; simp [List.getD]
    rw [e]
    obtain ⟨a, b, c⟩ := h k (by omega)
    rcases c with ⟨c1, c2⟩ | ⟨q, q1, q2, q3⟩
    · rw [c1]
      refine ⟨by omega, by omega, ?_, b⟩
      rw [c2]
      show (1 : Int) = nD p + 1
      omega
    · rw [q2]
      refine ⟨by omega, by omega, ?_, b⟩
      rw [show ((1 : Int) + q).toNat = q + 1 from by omega]
      have e2 : ndG (p :: L) (q + 1) = ndG L q := by unfold ndG; simp [List.getD]
      rw [e2]
      exact q3
/-- what is parsed is well made -/
theorem prs_wt {g : zG} {ord : Nat → Nat} {em : Nat → Bool} {n st : Nat} {s : List Int} {L : List nd} (hg : GG g ord n st em) (ho : s.length ≤ 32) (h : prs g ord em st s = some L) : WT s.length L ∧ L.length ≤ 60 := by
  obtain ⟨hw, hn, hog, hn6, hst⟩ := hg
  unfold prs at h
  by_cases hx : ∃ o, PR g ord em st s o
  · rw [dif_pos hx] at h
    have hpr := Classical.choose_spec hx
    rw [h] at hpr
    obtain ⟨E, b, al, hT, hs, e⟩ := hpr
    by_cases hc : E st s.length = 0 ∧ (treeL E g (chS s) st s.length).length ≤ 60
    · rw [if_pos hc] at e
      have e2 := Option.some.inj e
      rw [e2]
      refine ⟨?_, hc.2⟩
      obtain ⟨i, hi, hii⟩ := hog.2.2.1 st hst.1 hst.2
      unfold treeL
      refine WT.of ⟨⟨by show (0 : Int) ≤ (st : Int); omega, by show (st : Int) ≤ 6; omega⟩, Or.inl rfl, Int.le_refl 0, by show (0 : Int) ≤ (s.length : Int); omega, by show (0 : Int) + (s.length : Int) ≤ s.length; omega⟩ rfl rfl ?_
      have h5 := tn_wn hT chS_neg hw hn hog hn6 hs (m := s.length) (by omega) 300 i s.length 1 0 1 hi (Nat.le_refl _) (by omega)
      rw [hii] at h5
      exact h5
    · rw [if_neg hc] at e
      cases e
  · rw [dif_neg hx] at h
    cases h
/-! ===== the reductions ===== -/
def bgW (b : List Int) (i : Nat) : Bool := decide (0 < i) && decide (i < b.length) && !decide (b.getD i 0 = 32) && decide (b.getD (i - 1) 0 = 32)
def sgU (words : Bool) (b : List Int) : Nat → Nat → Nat → List un
  | 0, _, _ => []
  | m + 1, i, f => if (!words || decide (i = b.length) || bgW b i) = true then ((f : Int), (i : Int), 0) :: sgU words b m (i + 1) i else sgU words b m (i + 1) f
def bsS (on : Int) (oc : List Int → Int) (words : Bool) (ty : List Int) (j : JS) : List Int × JS := (lesS on oc ty (sgU words ty ty.length 1 0, fun _ => true, ty, j)).2.2
/-- the units of a depth below nodes that are kept: from node i on -/
def lvU (L : List nd) (av : Nat → Bool) (d : Int) : Nat → Nat → List un
  | 0, _ => []
  | m + 1, i => if (decide (nD (ndG L i) = d) && av (nP (ndG L i)).toNat) = true then (nB (ndG L i), nB (ndG L i) + nZ (ndG L i), (i : Int)) :: lvU L av d m (i + 1) else lvU L av d m (i + 1)
def lvS (on : Int) (oc : List Int → Int) (b : List Int) (L : List nd) : Nat → Int → (Nat → Bool) → (Nat → Bool) × List Int × JS → (Nat → Bool) × List Int × JS
  | 0, _, _, w => w
  | m + 1, d, av, w => if ¬ w.2.2.2.2.2.2 = 0 then w else lvS on oc b L m (d + 1) (fun i => (lesS on oc b (lvU L av d (L.length - 1) 1, w)).1.any (fun u => decide (u.2.2 = (i : Int)))) (lesS on oc b (lvU L av d (L.length - 1) 1, w)).2
def dpL (L : List nd) : Int := dpF (fun k => nD (ndG L k)) L.length
/-- one time through the levels -/
def l1S (on : Int) (oc : List Int → Int) (L : List nd) (ty : List Int) (j : JS) : List Int × JS := (lvS on oc ty L (dpL L).toNat 1 (fun i => decide (i = 0)) (fun _ => true, ty, j)).2
def blS (on : Int) (oc : List Int → Int) (ps : List Int → Option (List nd)) (again : Bool) : Nat → List Int → JS → List Int × JS
  | 0, ty, j => (ty, j)
  | f + 1, ty, j => match ps ty with
    | none => (ty, j)
    | some L => if again = true ∧ (l1S on oc L ty j).2.2.2.2.2 = 0 ∧ (l1S on oc L ty j).1.length < ty.length then blS on oc ps again f (l1S on oc L ty j).1 (l1S on oc L ty j).2 else l1S on oc L ty j
def isM (L : List nd) (i x : Nat) : Bool := if x = i then decide (¬ nL (ndG L i) = 0) else decide (nR (ndG L x) < 6) && decide (nR (ndG L x) = nR (ndG L i)) && decide (nZ (ndG L x) < nZ (ndG L i))
/-- the text with the characters of x in place of those of i (or without these) -/
def mvT (ty : List Int) (L : List nd) (i x : Nat) : List Int := ty.take (nB (ndG L i)).toNat ++ (ty.take (nB (ndG L x) + (if x = i then 0 else nZ (ndG L x))).toNat).drop (nB (ndG L x)).toNat ++ ty.drop (nB (ndG L i) + nZ (ndG L i)).toNat
def tmS (on : Int) (oc : List Int → Int) (ps : List Int → Option (List nd)) (ty : List Int) (L : List nd) (i : Nat) : Nat → Nat → JS → Bool × List Int × JS
  | 0, _, j => (false, ty, j)
  | m + 1, x, j => if ¬ x = i ∧ nD (ndG L x) ≤ nD (ndG L i) then (false, ty, j)
      else if isM L i x = true ∧ (ps (mvT ty L i x)).isSome = true then
        if (askS on oc j (mvT ty L i x)).1 = 1 then (true, mvT ty L i x, (askS on oc j (mvT ty L i x)).2) else tmS on oc ps ty L i m (x + 1) (askS on oc j (mvT ty L i x)).2
      else tmS on oc ps ty L i m (x + 1) j
def bmS (on : Int) (oc : List Int → Int) (ps : List Int → Option (List nd)) : Nat → List nd → Int → Nat → List Int → JS → List Int × JS
  | 0, _, _, _, ty, j => (ty, j)
  | f + 1, L, v, i, ty, j => if v ≤ 0 ∨ ¬ j.2.2.2.2 = 0 then (ty, j)
      else if L.length ≤ i then bmS on oc ps f L (v - 1) 0 ty j
      else if nZ (ndG L i) = v then
        if (tmS on oc ps ty L i (L.length - i) i j).1 = true then bmS on oc ps f ((ps (tmS on oc ps ty L i (L.length - i) i j).2.1).getD []) (tmS on oc ps ty L i (L.length - i) i j).2.1.length 0 (tmS on oc ps ty L i (L.length - i) i j).2.1 (tmS on oc ps ty L i (L.length - i) i j).2.2
        else bmS on oc ps f L v (i + 1) ty (tmS on oc ps ty L i (L.length - i) i j).2.2
      else bmS on oc ps f L v (i + 1) ty j
/-- a reduction that isn't refused -/
def rdS (on : Int) (oc : List Int → Int) (ps : List Int → Option (List nd)) (kind most : Int) (ty : List Int) (j : JS) : List Int × JS :=
  if kind ≤ 1 then bsS on oc (decide (kind = 1)) ty (j.1, most, j.2.2.1, j.2.2.2.1, 0)
  else if kind ≤ 3 then blS on oc ps (decide (kind = 3)) 33 ty (j.1, most, j.2.2.1, j.2.2.2.1, 0)
  else bmS on oc ps 100000 ((ps ty).getD []) ty.length 0 ty (j.1, most, j.2.2.1, j.2.2.2.1, 0)
