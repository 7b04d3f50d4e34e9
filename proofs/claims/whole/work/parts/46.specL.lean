/-! ===== lessening units ===== -/
/-- a unit: where it begins and ends, its node -/
abbrev un : Type := Int × Int × Int
/-- the units kept, what of the base is there, the typed text, what asking goes by -/
abbrev LSt : Type := List un × (Nat → Bool) × List Int × JS
def kpI (p : Nat → Bool) : List un → Nat → List un
  | [], _ => []
  | u :: U, i => if p i = true then u :: kpI p U (i + 1) else kpI p U (i + 1)
def cvL (L : List un) (x : Nat) : Bool := L.any (fun u => decide (u.1 ≤ (x : Int)) && decide ((x : Int) < u.2.1))
def mskT (b : List Int) (th : Nat → Bool) : List Int := ((List.range b.length).filter th).map (fun i => b.getD i 0)
def inP (f e : Int) (u : Nat) : Bool := decide (f ≤ (u : Int)) && decide ((u : Int) < e)
def parF (n m p : Int) : Int := p * m / n
/-- what is there without the units that are (not) in a part -/
def thS (U : List un) (th : Nat → Bool) (f e : Int) (al : Bool) : Nat → Bool := fun x => th x && !(cvL (kpI (fun u => inP f e u != al) U 0) x)
def kpS (U : List un) (f e : Int) (al : Bool) : List un := kpI (fun u => inP f e u == al) U 0
def tkS (on : Int) (oc : List Int → Int) (b : List Int) (n : Int) (al : Bool) : Nat → Int → LSt → Bool × LSt
  | 0, _, z => (false, z)
  | m + 1, p, z => if ¬ z.2.2.2.2.2.2.2 = 0 then (false, z) else
      if (askS on oc z.2.2.2 (mskT b (thS z.1 z.2.1 (parF n z.1.length p) (parF n z.1.length (p + 1)) al))).1 = 1 then
        (true, (kpS z.1 (parF n z.1.length p) (parF n z.1.length (p + 1)) al, thS z.1 z.2.1 (parF n z.1.length p) (parF n z.1.length (p + 1)) al, mskT b (thS z.1 z.2.1 (parF n z.1.length p) (parF n z.1.length (p + 1)) al), (askS on oc z.2.2.2 (mskT b (thS z.1 z.2.1 (parF n z.1.length p) (parF n z.1.length (p + 1)) al))).2))
      else tkS on oc b n al m (p + 1) (z.1, z.2.1, z.2.2.1, (askS on oc z.2.2.2 (mskT b (thS z.1 z.2.1 (parF n z.1.length p) (parF n z.1.length (p + 1)) al))).2)
/-- a try that may be left out -/
def trS (on : Int) (oc : List Int → Int) (b : List Int) (n : Int) (al : Bool) (go : Bool) (z : LSt) : Bool × LSt := if go = true then tkS on oc b n al n.toNat 0 z else (false, z)
def leS (on : Int) (oc : List Int → Int) (b : List Int) : Nat → Int → LSt → LSt
  | 0, _, z => z
  | f + 1, n, z => if z.1.length = 0 ∨ ¬ z.2.2.2.2.2.2.2 = 0 then z else
      if (trS on oc b n true (decide (2 ≤ n)) z).1 = true then leS on oc b f (min 2 ((trS on oc b n true (decide (2 ≤ n)) z).2.1.length : Int)) (trS on oc b n true (decide (2 ≤ n)) z).2
      else if (trS on oc b n false (decide (¬ n = 2)) (trS on oc b n true (decide (2 ≤ n)) z).2).1 = true then leS on oc b f (min (max 2 (n - 1)) ((trS on oc b n false (decide (¬ n = 2)) (trS on oc b n true (decide (2 ≤ n)) z).2).2.1.length : Int)) (trS on oc b n false (decide (¬ n = 2)) (trS on oc b n true (decide (2 ≤ n)) z).2).2
      else if (z.1.length : Int) ≤ n then (trS on oc b n false (decide (¬ n = 2)) (trS on oc b n true (decide (2 ≤ n)) z).2).2
      else leS on oc b f (min (2 * n) (z.1.length : Int)) (trS on oc b n false (decide (¬ n = 2)) (trS on oc b n true (decide (2 ≤ n)) z).2).2
/-- all of it: from two parts on (one, for a single unit) -/
def lesS (on : Int) (oc : List Int → Int) (b : List Int) (z : LSt) : LSt := leS on oc b 5000 (min 2 (z.1.length : Int)) z
def okU (U : List un) : Prop := ∀ u ∈ U, 0 ≤ u.1 ∧ u.1 ≤ u.2.1 ∧ u.2.1 ≤ 32
theorem kpI_mem {p : Nat → Bool} (U : List un) : ∀ i, ∀ u ∈ kpI p U i, u ∈ U := by
  induction U with
  | nil => intro i u h; exact h
  | cons v U ih =>
    intro i u h
    unfold kpI at h
    split at h
    · rcases List.mem_cons.mp h with rfl | h
      · exact List.mem_cons_self
      · exact List.mem_cons_of_mem _ (ih _ u h)
    · exact List.mem_cons_of_mem _ (ih _ u h)
theorem kpI_app {p : Nat → Bool} (U V : List un) : ∀ i, kpI p (U ++ V) i = kpI p U i ++ kpI p V (i + U.length) := by
  induction U with
  | nil => intro i; rfl
  | cons u U ih =>
    intro i
    have e : ∀ (L : List un) (i : Nat), kpI p (u :: L) i = if p i = true then u :: kpI p L (i + 1) else kpI p L (i + 1) := fun _ _ => rfl
    rw [List.cons_append, e, e, ih, show i + (u :: U).length = i + 1 + U.length from by simp; omega]
    split
    · rfl
    · rfl
theorem kpI_take {p : Nat → Bool} {U : List un} {v : Nat} (h : v < U.length) : kpI p (U.take (v + 1)) 0 = kpI p (U.take v) 0 ++ (if p v = true then [U[v]] else []) := by
  rw [List.take_succ, kpI_app, List.getElem?_eq_getElem h]
  simp only [Option.toList_some, List.length_take, Nat.min_eq_left (Nat.le_of_lt h), Nat.zero_add]
  congr 1
theorem kpI_len {p : Nat → Bool} (U : List un) : ∀ i, (kpI p U i).length ≤ U.length := by
  induction U with
  | nil => intro i; exact Nat.le_refl _
  | cons u U ih =>
    intro i
    have := ih (i + 1)
    unfold kpI
    split <;> simp <;> omega
theorem kpI_in (U : List un) (f e : Nat) : ∀ i, kpI (fun u => inP f e u == true) U i = (U.take (e - i)).drop (f - i) := by
  induction U with
  | nil => intro i; simp [kpI]
  | cons u U ih =>
    intro i
    unfold kpI
    rw [ih]
    by_cases h1 : f ≤ i
    · by_cases h2 : i < e
      · have e1 : (inP f e i == true) = true := by simp [inP, h1, h2]
        rw [if_pos e1, show f - i = 0 from by omega, show f - (i + 1) = 0 from by omega, show e - i = (e - (i + 1)) + 1 from by omega]
        simp
      · have e1 : ¬ (inP f e i == true) = true := by simp [inP]; omega
        rw [if_neg e1, show e - i = 0 from by omega, show e - (i + 1) = 0 from by omega]
        simp
    · have e1 : ¬ (inP f e i == true) = true := by simp [inP]; omega
      rw [if_neg e1]
      by_cases h2 : i < e
      · rw [show f - i = (f - (i + 1)) + 1 from by omega, show e - i = (e - (i + 1)) + 1 from by omega]
        simp
      · rw [show e - i = 0 from by omega, show e - (i + 1) = 0 from by omega]
        simp
theorem kpI_out (U : List un) (f e : Nat) (hfe : f ≤ e) : ∀ i, kpI (fun u => inP f e u == false) U i = U.take (f - i) ++ U.drop (e - i) := by
  induction U with
  | nil => intro i; simp [kpI]
  | cons u U ih =>
    intro i
    unfold kpI
    rw [ih]
    by_cases h1 : f ≤ i
    · by_cases h2 : i < e
      · have e1 : ¬ (inP f e i == false) = true := by simp [inP, h1, h2]
        rw [if_neg e1, show f - i = 0 from by omega, show f - (i + 1) = 0 from by omega, show e - i = (e - (i + 1)) + 1 from by omega]
        simp
      · have e1 : (inP f e i == false) = true := by simp [inP]; omega
        rw [if_pos e1, show f - i = 0 from by omega, show f - (i + 1) = 0 from by omega, show e - i = 0 from by omega, show e - (i + 1) = 0 from by omega]
        simp
    · have e1 : (inP f e i == false) = true := by simp [inP]; omega
      rw [if_pos e1, show f - i = (f - (i + 1)) + 1 from by omega, show e - i = (e - (i + 1)) + 1 from by omega]
      simp
theorem parF_bd {n m p : Int} (hn : 1 ≤ n) (hm : n ≤ m) (hp : 0 ≤ p) (hpn : p < n) : 0 ≤ parF n m p ∧ parF n m p + 1 ≤ parF n m (p + 1) ∧ parF n m (p + 1) ≤ m ∧ (2 ≤ n → parF n m (p + 1) - parF n m p + 1 ≤ m) := by
  unfold parF
  have h0 : 0 ≤ p * m := Int.mul_nonneg hp (by omega)
  have e : (p + 1) * m = p * m + m := by rw [Int.add_mul, Int.one_mul]
  have h1 : p * m / n + 1 ≤ (p + 1) * m / n := by
    have : p * m / n + 1 = (p * m + n) / n := by rw [Int.add_ediv_of_dvd_right (Int.dvd_refl n), Int.ediv_self (by omega)]
    rw [this]
    exact Int.ediv_le_ediv (by omega) (by omega)
  have h2 : (p + 1) * m / n ≤ m := by
    have h3 : (p + 1) * m ≤ n * m := Int.mul_le_mul_of_nonneg_right (by omega) (by omega)
    have h4 : (p + 1) * m / n ≤ n * m / n := Int.ediv_le_ediv (by omega) h3
    rw [Int.mul_ediv_cancel_left m (by omega)] at h4
    exact h4
  refine ⟨Int.ediv_nonneg h0 (by omega), h1, h2, fun h => ?_⟩
  by_cases hp0 : p = 0
  · subst hp0
    have e0 : (0 : Int) * m / n = 0 := by rw [Int.zero_mul, Int.zero_ediv]
    have e1 : ((0 : Int) + 1) * m / n = m / n := by rw [Int.zero_add, Int.one_mul]
    rw [e0, e1]
    have : m / n ≤ m / 2 := by
      refine Int.le_ediv_of_mul_le (by decide) ?_
      have := Int.ediv_mul_le m (show n ≠ 0 by omega)
      have h3 : 0 ≤ m / n := Int.ediv_nonneg (by omega) (by omega)
      have h4 : m / n * 2 ≤ m / n * n := Int.mul_le_mul_of_nonneg_left h h3
      omega
    omega
  · have h5 : 1 ≤ p * m / n := by
      refine Int.le_ediv_of_mul_le (by omega) ?_
      have : 1 * m ≤ p * m := Int.mul_le_mul_of_nonneg_right (by omega) (by omega)
      omega
    omega
theorem kpS_nat {U : List un} {f e : Int} {al : Bool} (hf : 0 ≤ f) (hfe : f ≤ e) : kpS U f e al = if al = true then (U.take e.toNat).drop f.toNat else U.take f.toNat ++ U.drop e.toNat := by
  unfold kpS
  have ef : f = (f.toNat : Int) := by omega
  have ee : e = (e.toNat : Int) := by omega
  rw [ef, ee]
  cases al with
  | true => rw [if_pos rfl, kpI_in]; rfl
  | false => rw [if_neg (by decide), kpI_out _ _ _ (by omega)]; rfl
theorem kpS_len {U : List un} {n p : Int} {al : Bool} (hn : 1 ≤ n) (hm : n ≤ U.length) (hp : 0 ≤ p) (hpn : p < n) (hal : al = true → 2 ≤ n) : (kpS U (parF n U.length p) (parF n U.length (p + 1)) al).length + 1 ≤ U.length ∧ (al = true → 1 ≤ (kpS U (parF n U.length p) (parF n U.length (p + 1)) al).length) := by
  obtain ⟨h1, h2, h3, h4⟩ := parF_bd hn hm hp hpn
  rw [kpS_nat h1 (by omega)]
  cases al with
  | true =>
    have h5 := h4 (hal rfl)
    rw [if_pos rfl, List.length_drop, List.length_take]
    constructor
    · omega
    · intro _; omega
  | false =>
    rw [if_neg (by decide), List.length_append, List.length_take, List.length_drop]
    exact ⟨by omega, fun h => by cases h⟩
theorem kpS_ok {U : List un} {f e : Int} {al : Bool} (h : okU U) : okU (kpS U f e al) := fun u hu => h u (kpI_mem U _ u hu)
