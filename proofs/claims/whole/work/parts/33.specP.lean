/-! ===== how many nodes; what a text parses to ===== -/
theorem cap_add {x y : Int} (h : 0 ≤ x) (h2 : 0 ≤ y) : cap (x + cap y) = cap (x + y) := by
  unfold cap
  split <;> split <;> (try split) <;> omega
section TP
variable {E E' b b' al al' : tE} {g : zG} {ch ch' : Nat → Int} {ord : Nat → Nat} {em : Nat → Bool} {n : Nat}
theorem cnt_tkl (sub : Nat → Int → Int → Int → List nd) {m d par : Int} (L : List tk) : ∀ (i c : Int), 0 ≤ c → c ≤ 60 → (∀ p ∈ L, nm (gI g p.1) < 6 → ∀ q j, b (nm (gI g p.1)).toNat p.2.2.1.toNat = cap ((sub (nm (gI g p.1)).toNat p.2.2.1 q j).length : Nat)) → cnt b g c L = cap (c + ((tkl sub E g ch m d par L i).length : Nat)) := by
  induction L with
  | nil => intro i c h0 h1 _; show c = cap (c + (0 : Nat)); unfold cap; split <;> omega
  | cons p L ih =>
    intro i c h0 h1 h
    have h2 := fun i c h0 h1 => ih i c h0 h1 (fun q hq => h q (List.mem_cons_of_mem _ hq))
    show cnt b g (cap (c + nofk b g p.1 p.2.2.1)) L = _
    have hx : 0 ≤ nofk b g p.1 p.2.2.1 := by
      unfold nofk
      split
      · next h6 => rw [h p List.mem_cons_self h6 0 0]; have := cap_bd (x := ((sub (nm (gI g p.1)).toNat p.2.2.1 0 0).length : Nat)) (by omega); omega
      · split <;> omega
    have h3 := cap_bd (x := c + nofk b g p.1 p.2.2.1) (by omega)
    unfold tkl
    split
    · next h6 =>
      rw [h2 (i + 1 + ((sub (nm (gI g p.1)).toNat p.2.2.1 i (i + 1)).length : Nat)) _ h3.1 h3.2]
      unfold nofk
      rw [if_pos h6, h p List.mem_cons_self h6 i (i + 1)]
      simp only [List.length_cons, List.length_append]
      have e1 : cap (c + (1 + cap ((sub (nm (gI g p.1)).toNat p.2.2.1 i (i + 1)).length : Nat))) = cap (c + 1 + ((sub (nm (gI g p.1)).toNat p.2.2.1 i (i + 1)).length : Nat)) := by
        rw [← Int.add_assoc, cap_add (by omega) (by omega)]
      rw [e1, Int.add_comm (cap _), cap_add (by omega) (by omega)]
      congr 1
      omega
    · next h6 =>
      unfold nofk
      rw [if_neg h6]
      split
      · next hs =>
        have e : cap (c + 0) = c := by unfold cap; split <;> omega
        rw [e]
        exact h2 i c h0 h1
      · next hs =>
        have h4 := cap_bd (x := c + 1) (by omega)
        rw [h2 (i + 1) _ h4.1 h4.2, Int.add_comm (cap _), cap_add (by omega) (by omega)]
        simp only [List.length_cons]
        congr 1
        omega
theorem rva_some {o : Option (Nat × Int × List tk)} (h : 0 ≤ rva o) : o ≠ none := by
  intro q
  rw [q] at h
  simp [rva] at h
theorem below_len (hT : TB E) (h0 : ch 0 < 0) (hw : WG g) (hn : NG g) (hog : OG g ord n em) (hn6 : n ≤ 6) {l0 : Nat} (hs : SAT E b al g ch ord em l0 0) {m : Int} : ∀ (f i l : Nat) (d par j : Int), i < n → l < l0 → 7 * l + i < f → rmt E g ch (ord i) (l : Nat) ≠ none → b (ord i) l = cap ((tn E g ch m f (ord i) l d par j).length : Nat) := by
  intro f
  induction f with
  | zero => intro i l d par j hi hl hf; omega
  | succ f ih =>
    intro i l d par j hi hl hf hne
    have hr := hog.1 i hi
    have hel := lst_ok hT h0 hw hn hog hn6 hs hi hl
    cases ho : rmt E g ch (ord i) (l : Nat) with
    | none => exact absurd ho hne
    | some q =>
      obtain ⟨a, e, L⟩ := q
      have h2 := ((hs _ _ (Or.inl ⟨hl, hr.1, hr.2⟩)).1.2 a e L ho).1
      rw [h2]
      unfold tn
      rw [ho] at hel ⊢
      have h3 := cnt_tkl (E := E) (b := b) (g := g) (ch := ch) (m := m) (d := d) (par := par) (fun r' l' par' i' => tn E g ch m f r' l' (d + 1) par' i') L j 0 (by decide) (by decide) (fun p hp h6 q z => by
        obtain ⟨a1, a2, a3, a4, a5⟩ := hel p hp
        obtain ⟨-, e5, u, hu, hu2, hu3⟩ := a5 h6
        have hru := hog.1 u hu
        have hgd := (hs _ _ (Or.inl ⟨(by omega : p.2.2.1.toNat < l0), hru.1, hru.2⟩)).1.1
        have h7 := ih u p.2.2.1.toNat (d + 1) q z hu (by omega) (hu3 f hf) (rva_some (by rw [← hgd, hu2, ← e5]; exact a2))
        have e8 : p.2.2.1 = ((p.2.2.1.toNat : Nat) : Int) := by omega
        rw [hu2, ← e8] at h7
        exact h7)
      rw [h3, Int.zero_add]
      rfl
end TP
/-- the tree of a text of n characters, by a table of ends -/
def treeL (E : tE) (g : zG) (ch : Nat → Int) (st : Nat) (n : Nat) : List nd := ((st : Int), 0, 0, (n : Int), 0, -1) :: tn E g ch n 300 st n 1 0 1
/-- what a text parses to: its tree, if it parses and has no more than 60 nodes -/
def PR (g : zG) (ord : Nat → Nat) (em : Nat → Bool) (st : Nat) (s : List Int) (o : Option (List nd)) : Prop := ∃ E b al : tE, TB E ∧ SAT E b al g (chS s) ord em (s.length + 1) 0 ∧ o = if E st s.length = 0 ∧ (treeL E g (chS s) st s.length).length ≤ 60 then some (treeL E g (chS s) st s.length) else none
theorem PR.uniq {g : zG} {ord : Nat → Nat} {em : Nat → Bool} {n st : Nat} {s : List Int} {o o' : Option (List nd)} (hw : WG g) (hn : NG g) (hog : OG g ord n em) (hn6 : n ≤ 6) (hst : st < 6 ∧ 0 ≤ gR g st) (ho : s.length ≤ 32) (h : PR g ord em st s o) (h' : PR g ord em st s o') : o' = o := by
  obtain ⟨E, b, al, hT, hs, e⟩ := h
  obtain ⟨E', b', al', hT', hs', e'⟩ := h'
  obtain ⟨i, hi, hii⟩ := hog.2.2.1 st hst.1 hst.2
  have hu := fun i l hi hl => SAT.uniq (E' := E') hT chS_neg hw hn hog hs hs' hn6 (7 * l + i + 1) i l hi hl (by omega)
  have e1 : E' st s.length = E st s.length := by rw [← hii]; exact (hu i s.length hi (by omega)).2
  have e2 : treeL E' g (chS s) st s.length = treeL E g (chS s) st s.length := by
    unfold treeL
    rw [← hii, tn_cg (E := E) (E' := E') hT chS_neg hw hn hog hn6 hs (fun i l hi hl => (hu i l hi hl).1) (fun i l hi hl => (hu i l hi hl).2) 300 300 i s.length 1 0 1 hi (by omega) (by omega) (by omega)]
  rw [e, e', e1, e2]
noncomputable def prs (g : zG) (ord : Nat → Nat) (em : Nat → Bool) (st : Nat) (s : List Int) : Option (List nd) := @dite _ (∃ o, PR g ord em st s o) (Classical.propDecidable _) (fun h => Classical.choose h) (fun _ => none)
theorem prs_eq {g : zG} {ord : Nat → Nat} {em : Nat → Bool} {n st : Nat} {s : List Int} {o : Option (List nd)} (hw : WG g) (hn : NG g) (hog : OG g ord n em) (hn6 : n ≤ 6) (hst : st < 6 ∧ 0 ≤ gR g st) (ho : s.length ≤ 32) (h : PR g ord em st s o) : prs g ord em st s = o := by
  unfold prs
  have hx : ∃ o, PR g ord em st s o := ⟨o, h⟩
  rw [dif_pos hx]
  exact PR.uniq hw hn hog hn6 hst ho h (Classical.choose_spec hx)
