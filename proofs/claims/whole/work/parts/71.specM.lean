/-! ===== which rules may match nothing; the order of the rules ===== -/
/-- every item of an alternative may match nothing -/
def AV (g : zG) (e : Nat → Bool) (b : Nat) : Prop := ∀ j : Nat, gF g b ≤ j → (j : Int) < gF g (b + 1) → gV g e j = true
def EA (g : zG) (e : Nat → Bool) (r : Nat) : Prop := 0 ≤ gR g r ∧ ∃ b : Nat, gR g r ≤ b ∧ (b : Int) < gE g r ∧ AV g e b
noncomputable def fE (g : zG) (e : Nat → Bool) (r : Nat) : Nat → Bool := fun q => if q = r then (e r || @decide (EA g e r) (Classical.propDecidable _)) else e q
noncomputable def rE (g : zG) (e : Nat → Bool) (n : Nat) : Nat → Bool := (List.range n).foldl (fE g) e
noncomputable def itE (g : zG) : Nat → Nat → Bool
  | 0 => fun _ => false
  | n + 1 => rE g (itE g n) 6
theorem gV_mono {g : zG} {e e' : Nat → Bool} {j : Nat} (h : ∀ r, r < 6 → e r = true → e' r = true) (hv : gV g e j = true) : gV g e' j = true := by
  unfold gV at *
  simp only [Bool.or_eq_true, Bool.and_eq_true, decide_eq_true_eq] at *
  rcases hv with q | ⟨q, q2⟩
  · exact Or.inl q
  · have := nm_lt.mpr q
    have := (nm_bd (gI g j)).1
    exact Or.inr ⟨q, h _ (by omega) q2⟩
theorem gV_cg {g : zG} {e e' : Nat → Bool} {j : Nat} (h : ∀ r, r < 6 → e r = e' r) : gV g e j = gV g e' j := by
  apply Bool.eq_iff_iff.mpr
  exact ⟨gV_mono (fun r hr q => by rw [← h r hr]; exact q), gV_mono (fun r hr q => by rw [h r hr]; exact q)⟩
theorem EA_mono {g : zG} {e e' : Nat → Bool} {r : Nat} (h : ∀ r, r < 6 → e r = true → e' r = true) (hv : EA g e r) : EA g e' r := by
  obtain ⟨a, b, c, d, f⟩ := hv
  exact ⟨a, b, c, d, fun j h1 h2 => gV_mono h (f j h1 h2)⟩
theorem fE_up {g : zG} {e : Nat → Bool} {r q : Nat} (h : e q = true) : fE g e r q = true := by
  unfold fE
  by_cases z : q = r
  · rw [if_pos z, ← z, h]; rfl
  · rw [if_neg z]; exact h
theorem rE_up {g : zG} {e : Nat → Bool} {q : Nat} (n : Nat) (h : e q = true) : rE g e n q = true := by
  induction n with
  | zero => exact h
  | succ n ih =>
    unfold rE at *
    rw [List.range_succ, List.foldl_append]
    exact fE_up ih
theorem rE_at {g : zG} {e : Nat → Bool} {r : Nat} (h : EA g e r) : rE g e (r + 1) r = true := by
  unfold rE
  rw [List.range_succ, List.foldl_append]
  show fE g (rE g e r) r r = true
  unfold fE
  rw [if_pos rfl]
  have : EA g (rE g e r) r := EA_mono (fun q _ => rE_up r) h
  simp [this]
theorem rE_add {g : zG} {e : Nat → Bool} {q : Nat} {n m : Nat} (h : rE g e n q = true) (hm : n ≤ m) : rE g e m q = true := by
  induction m with
  | zero => have : n = 0 := by omega
            rw [← this]; exact h
  | succ m ih =>
    by_cases z : n = m + 1
    · rw [← z]; exact h
    · unfold rE
      rw [List.range_succ, List.foldl_append]
      exact fE_up (ih (by omega))
def cE (e : Nat → Bool) : Int := (if e 0 = true then 1 else 0) + (if e 1 = true then 1 else 0) + (if e 2 = true then 1 else 0) + (if e 3 = true then 1 else 0) + (if e 4 = true then 1 else 0) + (if e 5 = true then 1 else 0)
theorem cE_lt {e e' : Nat → Bool} (h : ∀ r, r < 6 → e r = true → e' r = true) {r : Nat} (hr : r < 6) (h1 : ¬ e r = true) (h2 : e' r = true) : cE e + 1 ≤ cE e' := by
  have b : ∀ q, q < 6 → (if e q = true then (1 : Int) else 0) ≤ (if e' q = true then 1 else 0) := fun q hq => by
    by_cases z : e q = true
    · rw [if_pos z, if_pos (h q hq z)]; omega
    · rw [if_neg z]; split <;> omega
  have b' : (if e r = true then (1 : Int) else 0) + 1 ≤ (if e' r = true then 1 else 0) := by rw [if_neg h1, if_pos h2]; omega
  have b0 := b 0 (by omega)
  have b1 := b 1 (by omega)
  have b2 := b 2 (by omega)
  have b3 := b 3 (by omega)
  have b4 := b 4 (by omega)
  have b5 := b 5 (by omega)
  unfold cE
  have : r = 0 ∨ r = 1 ∨ r = 2 ∨ r = 3 ∨ r = 4 ∨ r = 5 := by omega
  rcases this with rfl | rfl | rfl | rfl | rfl | rfl <;> omega
theorem cE_all {e : Nat → Bool} (h : 6 ≤ cE e) {r : Nat} (hr : r < 6) : e r = true := by
  by_cases z : e r = true
  · exact z
  · have := cE_lt (e := e) (e' := fun _ => true) (fun _ _ _ => rfl) hr z rfl
    have : cE (fun _ => true) = 6 := rfl
    omega
def CLE (g : zG) (e : Nat → Bool) : Prop := ∀ r, r < 6 → EA g e r → e r = true
theorem rE_fix {g : zG} {e : Nat → Bool} (h : CLE g e) {n : Nat} (hn : n ≤ 6) : rE g e n = e := by
  induction n with
  | zero => rfl
  | succ n ih =>
    unfold rE at *
    rw [List.range_succ, List.foldl_append, ih (by omega)]
    show fE g e n = e
    funext q
    unfold fE
    by_cases z : q = n
    · rw [if_pos z, z]
      by_cases w : EA g e n
      · rw [h n (by omega) w]; rfl
      · simp [w]
    · rw [if_neg z]
theorem itE_cl {g : zG} : ∀ n : Nat, CLE g (itE g n) ∨ (n : Int) ≤ cE (itE g n) := by
  intro n
  induction n with
  | zero => right; unfold cE; simp [itE]
  | succ n ih =>
    by_cases z : CLE g (itE g n)
    · left
      show CLE g (rE g (itE g n) 6)
      rw [rE_fix z (Nat.le_refl _)]
      exact z
    · right
      have hn := ih.resolve_left z
      have : ∃ r, r < 6 ∧ EA g (itE g n) r ∧ ¬ itE g n r = true := by
        apply Classical.byContradiction
        intro w
        exact z (fun r hr he => Classical.byContradiction (fun v => w ⟨r, hr, he, v⟩))
      obtain ⟨r, hr, he, hv⟩ := this
      have := cE_lt (e := itE g n) (e' := itE g (n + 1)) (fun q _ h => rE_up 6 h) hr hv (rE_add (rE_at he) (by omega))
      omega
/-- which rules may match nothing -/
noncomputable def emG (g : zG) : Nat → Bool := itE g 6
theorem emG_cl (g : zG) : CLE g (emG g) := by
  rcases itE_cl (g := g) 6 with h | h
  · exact h
  · exact fun r hr _ => cE_all h hr
/-- the rule leads only to rules that are placed -/
def LPd (g : zG) (em : Nat → Bool) (od : List Nat) (r : Nat) : Prop := ∀ b : Nat, gR g r ≤ b → (b : Int) < gE g r → LD g em (fun q => q ∈ od) (gF g (b + 1) - gF g b).toNat (gF g b).toNat
def plc (g : zG) (em : Nat → Bool) (od : List Nat) (r : Nat) : Prop := 0 ≤ gR g r ∧ r ∉ od ∧ LPd g em od r
noncomputable def fO (g : zG) (em : Nat → Bool) (od : List Nat) (r : Nat) : List Nat := @ite _ (plc g em od r) (Classical.propDecidable _) (od ++ [r]) od
noncomputable def rO (g : zG) (em : Nat → Bool) (od : List Nat) (n : Nat) : List Nat := (List.range n).foldl (fO g em) od
noncomputable def itO (g : zG) (em : Nat → Bool) : Nat → List Nat
  | 0 => []
  | n + 1 => rO g em (itO g em n) 6
def iO (od : List Nat) (r : Nat) : Int := if r ∈ od then 1 else 0
def cO (od : List Nat) : Int := iO od 0 + iO od 1 + iO od 2 + iO od 3 + iO od 4 + iO od 5
def WO (g : zG) (em : Nat → Bool) (od : List Nat) : Prop := (∀ r ∈ od, r < 6 ∧ 0 ≤ gR g r) ∧ (od.length : Int) = cO od ∧ (∀ i j, i < od.length → j < od.length → od.getD i 0 = od.getD j 0 → i = j) ∧ ∀ i, i < od.length → LPd g em (od.take i) (od.getD i 0)
theorem WO.nil {g : zG} {em : Nat → Bool} : WO g em [] := ⟨fun r h => absurd h (by simp), by simp [cO, iO], fun i j h => absurd h (by simp), fun i h => absurd h (by simp)⟩
theorem iO_bd {od : List Nat} {r : Nat} : 0 ≤ iO od r ∧ iO od r ≤ 1 := by unfold iO; split <;> omega
theorem iO_app {od : List Nat} {r q : Nat} (h : r ∉ od) : iO (od ++ [r]) q = iO od q + (if q = r then 1 else 0) := by
  unfold iO
  by_cases z : q = r
  · simp [z, h]
  · simp [z]
theorem getD_mem' {od : List Nat} {i : Nat} (h : i < od.length) : od.getD i 0 ∈ od := by
  rw [List.getD_eq_getElem?_getD, List.getElem?_eq_getElem h]
  exact List.getElem_mem _
theorem WO.app {g : zG} {em : Nat → Bool} {od : List Nat} {r : Nat} (h : WO g em od) (hr : r < 6) (hp : plc g em od r) : WO g em (od ++ [r]) := by
  obtain ⟨a, b, c, d⟩ := h
  have gl : ∀ i, i < od.length → (od ++ [r]).getD i 0 = od.getD i 0 := fun i hi => by simp [List.getD, List.getElem?_append_left hi]
  have ge : (od ++ [r]).getD od.length 0 = r := by simp [List.getD]
  refine ⟨fun q hq => ?_, ?_, fun i j hi hj hij => ?_, fun i hi => ?_⟩
  · rcases List.mem_append.mp hq with z | z
    · exact a q z
    · rw [List.mem_singleton] at z
      rw [z]
      exact ⟨hr, hp.1⟩
  · unfold cO at *
    rw [iO_app hp.2.1, iO_app hp.2.1, iO_app hp.2.1, iO_app hp.2.1, iO_app hp.2.1, iO_app hp.2.1, List.length_append, List.length_singleton]
    have : r = 0 ∨ r = 1 ∨ r = 2 ∨ r = 3 ∨ r = 4 ∨ r = 5 := by omega
    rcases this with rfl | rfl | rfl | rfl | rfl | rfl <;> simp <;> omega
  · rw [List.length_append, List.length_singleton] at hi hj
    by_cases zi : i = od.length
    · by_cases zj : j = od.length
      · omega
      · exfalso
        rw [zi, ge, gl j (by omega)] at hij
        exact hp.2.1 (hij ▸ getD_mem' (by omega))
    · by_cases zj : j = od.length
      · exfalso
        rw [zj, ge, gl i (by omega)] at hij
        exact hp.2.1 (hij ▸ getD_mem' (by omega))
      · rw [gl i (by omega), gl j (by omega)] at hij
        exact c i j (by omega) (by omega) hij
  · rw [List.length_append, List.length_singleton] at hi
    by_cases zi : i = od.length
    · rw [zi, ge, List.take_left']
      exact hp.2.2
      rfl
    · rw [gl i (by omega), List.take_append_of_le_length (by omega)]
      exact d i (by omega)
theorem WO.fOk {g : zG} {em : Nat → Bool} {od : List Nat} {r : Nat} (h : WO g em od) (hr : r < 6) : WO g em (fO g em od r) := by
  unfold fO
  split
  · next z => exact h.app hr z
  · exact h
theorem WO.rOk {g : zG} {em : Nat → Bool} {od : List Nat} (h : WO g em od) : ∀ {n : Nat}, n ≤ 6 → WO g em (rO g em od n) := by
  intro n
  induction n with
  | zero => intro _; exact h
  | succ n ih =>
    intro hn
    unfold rO
    rw [List.range_succ, List.foldl_append]
    exact (ih (by omega)).fOk (by omega)
theorem WO.itOk {g : zG} {em : Nat → Bool} : ∀ n : Nat, WO g em (itO g em n) := by
  intro n
  induction n with
  | zero => exact WO.nil
  | succ n ih => exact ih.rOk (Nat.le_refl _)
theorem WO.len {g : zG} {em : Nat → Bool} {od : List Nat} (h : WO g em od) : od.length ≤ 6 := by
  have := h.2.1
  unfold cO at this
  have a0 := iO_bd (od := od) (r := 0)
  have a1 := iO_bd (od := od) (r := 1)
  have a2 := iO_bd (od := od) (r := 2)
  have a3 := iO_bd (od := od) (r := 3)
  have a4 := iO_bd (od := od) (r := 4)
  have a5 := iO_bd (od := od) (r := 5)
  omega
noncomputable def odG (g : zG) : List Nat := itO g (emG g) 6
theorem odG_OG {g : zG} (hw : WG g) (hn : ((odG g).length : Int) = cntD g) : OG g (fun i => (odG g).getD i 0) (odG g).length (emG g) := by
  have h : WO g (emG g) (odG g) := WO.itOk 6
  have cl := emG_cl g
  generalize odG g = od at *
  obtain ⟨a, b, c, d⟩ := h
  refine ⟨fun i hi => a _ (getD_mem' hi), c, fun r hr hd => ?_, fun i hi k h1 h2 => ?_, fun r hr hd k h1 h2 h3 => ?_⟩
  · have : r ∈ od := by
      have le : ∀ q, iO od q ≤ dfd g q := fun q => by
        unfold iO dfd
        by_cases z : q ∈ od
        · rw [if_pos z, if_neg (by have := (a q z).2; omega)]; omega
        · rw [if_neg z]; split <;> omega
      have l0 := le 0
      have l1 := le 1
      have l2 := le 2
      have l3 := le 3
      have l4 := le 4
      have l5 := le 5
      have hrd : dfd g r = 1 := by unfold dfd; rw [if_neg (by omega)]
      have : iO od r = 1 := by
        unfold cO cntD at *
        have : r = 0 ∨ r = 1 ∨ r = 2 ∨ r = 3 ∨ r = 4 ∨ r = 5 := by omega
        rcases this with rfl | rfl | rfl | rfl | rfl | rfl <;> omega
      unfold iO at this
      by_cases z : r ∈ od
      · exact z
      · rw [if_neg z] at this; omega
    obtain ⟨i, hi, e⟩ := List.getElem_of_mem this
    exact ⟨i, hi, by simp [List.getD, hi, e]⟩
  · have := d i hi k h1 h2
    intro j hj hv hnn
    obtain ⟨i', hi', e⟩ := List.getElem_of_mem (this j hj hv hnn)
    rw [List.length_take] at hi'
    refine ⟨i', by omega, ?_⟩
    rw [List.getElem_take] at e
    show od.getD i' 0 = _
    rw [← e]
    simp [List.getD, (by omega : i' < od.length)]
  · refine cl r hr ⟨hd, k, h1, h2, fun j h4 h5 => ?_⟩
    have := ((hw.2.2.2.2.2 r hr).2 hd)
    have f0 := (hw.2.2.2.1 k (by omega)).1
    have := h3 (j - (gF g k).toNat) (by omega)
    rwa [(by omega : (gF g k).toNat + (j - (gF g k).toNat) = j)] at this
