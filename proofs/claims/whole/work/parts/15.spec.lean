/-! ===== frames ===== -/
/-- outside the cells S nothing has changed -/
def zSm (S : List Nat) (M M' : zM) : Prop := (∀ a, a ∉ S → gi M' a = gi M a) ∧ gr M' = gr M ∧ gn M' = gn M
theorem zSm.rf {S : List Nat} {M : zM} : zSm S M M := ⟨fun _ _ => rfl, rfl, rfl⟩
theorem zSm.tr {S : List Nat} {M M' M2 : zM} (h : zSm S M M') (h' : zSm S M' M2) : zSm S M M2 := ⟨fun a ha => (h'.1 a ha).trans (h.1 a ha), h'.2.1.trans h.2.1, h'.2.2.trans h.2.2⟩
theorem zSm.mono {S T : List Nat} {M M' : zM} (h : zSm S M M') (hs : ∀ a ∈ S, a ∈ T) : zSm T M M' := ⟨fun a ha => h.1 a (fun q => ha (hs a q)), h.2⟩
theorem zSm.st {S : List Nat} {M M' : zM} (h : zSm S M M') {k j : Nat} {v : Int} (hk : k ∈ S) : zSm S M (si M' k j v) := ⟨fun a ha => (gi_si_ne (fun q => ha (by rw [q]; exact hk))).trans (h.1 a ha), h.2.1, h.2.2⟩
theorem zSm.ge {S : List Nat} {M M' : zM} (h : zSm S M M') {a : Nat} (ha : a ∉ S) : gi M' a = gi M a := h.1 a ha
/-! ===== rows of numbers ===== -/
def sg (f : Nat → Int) (n : Nat) : List Int := (List.range n).map f
theorem sg_len (f : Nat → Int) (n : Nat) : (sg f n).length = n := by simp [sg]
theorem sg_succ (f : Nat → Int) (n : Nat) : sg f (n + 1) = sg f n ++ [f n] := by simp [sg, List.range_succ]
theorem sg_ext {f g : Nat → Int} {n : Nat} (h : ∀ i, i < n → f i = g i) : sg f n = sg g n := by
  unfold sg
  apply List.map_congr_left
  intro i hi
  exact h i (List.mem_range.mp hi)
theorem sg_getD {f : Nat → Int} {n i : Nat} (h : i < n) : (sg f n).getD i 0 = f i := by simp [sg, List.getD, h]
/-- an array holds a row from its first place on -/
def zA (M : zM) (a : Nat) (s : List Int) : Prop := sg (gi M a) s.length = s
theorem zA.get {M : zM} {a : Nat} {s : List Int} (h : zA M a s) {i : Nat} (hi : i < s.length) : gi M a i = s.getD i 0 := by
  rw [← h, sg_getD hi]
theorem zA.mk {M : zM} {a : Nat} {s : List Int} (h : ∀ i, i < s.length → gi M a i = s.getD i 0) : zA M a s := by
  unfold zA
  apply List.ext_getElem
  · exact sg_len _ _
  · intro i h1 h2
    have := h i h2
    simp [sg, this, List.getD, h2]
theorem zA.same {M M' : zM} {a : Nat} {s : List Int} (h : zA M a s) (e : gi M' a = gi M a) : zA M' a s := by
  unfold zA
  rw [e]
  exact h
theorem zA.of {M M' : zM} {a : Nat} {s : List Int} (h : zA M a s) (e : ∀ i, i < s.length → gi M' a i = gi M a i) : zA M' a s := by
  unfold zA
  rw [sg_ext e]
  exact h
theorem zA.nil {M : zM} {a : Nat} : zA M a [] := rfl
theorem zA.app {M M' : zM} {a : Nat} {s : List Int} {x : Int} (h : zA M a s) (e : ∀ i, i < s.length → gi M' a i = gi M a i) (ex : gi M' a s.length = x) : zA M' a (s ++ [x]) := by
  unfold zA
  rw [List.length_append, List.length_singleton, sg_succ, ex, sg_ext e]
  congr 1
theorem zA.app1 {M : zM} {a : Nat} {s : List Int} {x : Int} (h : zA M a s) : zA (si M a s.length x) a (s ++ [x]) :=
  h.app (fun i hi => by rw [gi_si_eq, if_neg (by omega)]) (by rw [gi_si_eq, if_pos rfl])
theorem zA.take {M : zM} {a : Nat} {s : List Int} (h : zA M a s) (n : Nat) : zA M a (s.take n) := by
  apply zA.mk
  intro i hi
  rw [List.length_take] at hi
  rw [h.get (by omega)]
  simp only [List.getD, List.getElem?_take]
  rw [if_pos (by omega)]
theorem zA.inj {M M' : zM} {a b : Nat} {s s' : List Int} (h : zA M a s) (h' : zA M' b s') (hl : s.length = s'.length) (e : ∀ i, i < s.length → gi M a i = gi M' b i) : s = s' := by
  rw [← h, ← h', ← hl]
  exact sg_ext e
theorem take_succ' {s : List Int} {i : Nat} (h : i < s.length) : s.take (i + 1) = s.take i ++ [s.getD i 0] := by
  rw [List.take_succ]
  simp [List.getD, h]
theorem getD_app1 {s : List Int} {x : Int} : (s ++ [x]).getD s.length 0 = x := by simp [List.getD]
/-- a text: its characters are the next cell -/
def tT (M : zM) (t : Nat) (s : List Int) : Prop := gi M t 1 = (s.length : Int) ∧ zA M (t + 1) s
theorem tT.same {M M' : zM} {t : Nat} {s : List Int} (h : tT M t s) (e : gi M' t = gi M t) (e1 : gi M' (t + 1) = gi M (t + 1)) : tT M' t s := ⟨by rw [e]; exact h.1, h.2.same e1⟩
theorem tT.fr {S : List Nat} {M M' : zM} {t : Nat} {s : List Int} (h : tT M t s) (hs : zSm S M M') (e : t ∉ S) (e1 : t + 1 ∉ S) : tT M' t s := h.same (hs.ge e) (hs.ge e1)
/-- up to 32 characters -/
def okS (s : List Int) : Prop := s.length ≤ 32 ∧ ∀ x ∈ s, 0 ≤ x ∧ x < 65536
theorem getD_mem {s : List Int} {i : Nat} (h : i < s.length) : s.getD i 0 ∈ s := by
  simp [List.getD, h]
theorem okS.get {s : List Int} (h : okS s) {i : Nat} (hi : i < s.length) : 0 ≤ s.getD i 0 ∧ s.getD i 0 < 65536 := h.2 _ (getD_mem hi)
theorem okS.sub {s r : List Int} (h : okS s) (hl : r.length ≤ 32) (hr : ∀ x ∈ r, x ∈ s) : okS r := ⟨hl, fun x hx => h.2 x (hr x hx)⟩
/-! ===== terms over texts ===== -/
def cntL (c : Int) (s : List Int) : Int := s.foldl (fun n x => if x = c then n + 1 else n) 0
theorem cntL_app {c x : Int} {s : List Int} : cntL c (s ++ [x]) = if x = c then cntL c s + 1 else cntL c s := by simp [cntL]
theorem cntL_take {c : Int} {s : List Int} {i : Nat} (h : i < s.length) : cntL c (s.take (i + 1)) = if s.getD i 0 = c then cntL c (s.take i) + 1 else cntL c (s.take i) := by
  rw [take_succ' h, cntL_app]
theorem cntL_bd {c : Int} {s : List Int} (i : Nat) (h : i ≤ s.length) : 0 ≤ cntL c (s.take i) ∧ cntL c (s.take i) ≤ i := by
  induction i with
  | zero => simp [cntL]
  | succ i ih =>
    have := ih (by omega)
    rw [cntL_take (by omega)]
    split <;> omega
def prS (c d : Int) (near : Bool) (p : Bool × Bool) (x : Int) : Bool × Bool := (p.1 || (p.2 && decide (x = d)), decide (x = c) || (p.2 && !near))
def prF (c d : Int) (near : Bool) (s : List Int) : Bool × Bool := s.foldl (prS c d near) (false, false)
def prL (c d : Int) (near : Bool) (s : List Int) : Bool := (prF c d near s).1
theorem prF_take {c d : Int} {near : Bool} {s : List Int} {i : Nat} (h : i < s.length) : prF c d near (s.take (i + 1)) = prS c d near (prF c d near (s.take i)) (s.getD i 0) := by
  rw [take_succ' h]
  simp [prF]
theorem prL_up {c d : Int} {near : Bool} {s : List Int} {i : Nat} (h : (prF c d near (s.take i)).1 = true) (n : Nat) (hn : i + n ≤ s.length) : (prF c d near (s.take (i + n))).1 = true := by
  induction n with
  | zero => exact h
  | succ n ih =>
    rw [← Nat.add_assoc, prF_take (by omega)]
    simp [prS, ih (by omega)]
theorem prL_all {c d : Int} {near : Bool} {s : List Int} {i : Nat} (h : (prF c d near (s.take i)).1 = true) (hi : i ≤ s.length) : prL c d near s = true := by
  have h2 := prL_up h (s.length - i) (by omega)
  rw [show i + (s.length - i) = s.length from by omega, List.take_length] at h2
  exact h2
theorem toNat_succ {x : Int} (h : 0 ≤ x) : (x + 1).toNat = x.toNat + 1 := by omega
/-- an int that wraps around -/
def zw (x : Int) : Int := (Int32.ofInt x).toInt
theorem r_iaddw {B : zB} {E : zE} {pc : Nat} {ls : List (Option zV)} {st : List zV} {ini : zIni} {M : zM} {ce sl : Nat} {a b : Int} (hd : decode E.1.2.1 pc = .ok (.iadd, 1)) (k : zW B E (pc + 1) ls (zI (zw (a + b)) :: st) ini M ce sl) : zW B E pc ls (zI b :: zI a :: st) ini M ce sl :=
  zW.mp (fun h => zok_cons (v := zI (zw (a + b))) (zin_of _) (zok_t (zok_t h))) (fun hx hb _ kk => lv_iadd hx hb hd (by
    have e : Int32.ofInt a + Int32.ofInt b = Int32.ofInt (zw (a + b)) := by
      unfold zw
      rw [zof_toInt, Int32.ofInt_add]
    rw [e]; exact kk)) k
theorem r_ifb_eq {B : zB} {E : zE} {pc : Nat} {ls : List (Option zV)} {st : List zV} {ini : zIni} {M : zM} {ce sl : Nat} {P : Prop} [Decidable P] {off : Int} {tgt : Nat} (hd : decode E.1.2.1 pc = .ok (.ifCond .eq off, 3)) (ht : (pc : Int) + off = (tgt : Int)) (kt : ¬ P → zW B E tgt ls st ini M ce sl) (kf : P → zW B E (pc + 3) ls st ini M ce sl) : zW B E pc ls (zI (if P then 1 else 0) :: st) ini M ce sl :=
  r_if_eq hd ht (fun h => kt (fun p => by rw [if_pos p] at h; exact absurd h (by decide))) (fun h => kf (Decidable.byContradiction (fun p => h (if_neg p))))
theorem r_ifb_ne {B : zB} {E : zE} {pc : Nat} {ls : List (Option zV)} {st : List zV} {ini : zIni} {M : zM} {ce sl : Nat} {P : Prop} [Decidable P] {off : Int} {tgt : Nat} (hd : decode E.1.2.1 pc = .ok (.ifCond .ne off, 3)) (ht : (pc : Int) + off = (tgt : Int)) (kt : P → zW B E tgt ls st ini M ce sl) (kf : ¬ P → zW B E (pc + 3) ls st ini M ce sl) : zW B E pc ls (zI (if P then 1 else 0) :: st) ini M ce sl :=
  r_if_ne hd ht (fun h => kt (Decidable.byContradiction (fun p => h (if_neg p)))) (fun h => kf (fun p => by rw [if_pos p] at h; exact absurd h (by decide)))
theorem zJ1 {P : Int → Prop} {a : Int} (h : P a) : ∀ x, x = a → P x := fun x e => by subst e; exact h
theorem zJ2 {P : Int → Int → Prop} {a b : Int} (h : P a b) : ∀ x, x = a → ∀ y, y = b → P x y := fun x e y e2 => by subst e; subst e2; exact h
theorem zJ3 {P : Int → Int → Int → Prop} {a b c : Int} (h : P a b c) : ∀ x, x = a → ∀ y, y = b → ∀ z, z = c → P x y z := fun x e y e2 z e3 => by subst e; subst e2; subst e3; exact h
theorem zJ4 {P : Int → Int → Int → Int → Prop} {a b c d : Int} (h : P a b c d) : ∀ x, x = a → ∀ y, y = b → ∀ z, z = c → ∀ w, w = d → P x y z w := fun x e y e2 z e3 w e4 => by subst e; subst e2; subst e3; subst e4; exact h
