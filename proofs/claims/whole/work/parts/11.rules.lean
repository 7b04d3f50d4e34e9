/-! ===== THE JUDGEMENT: from here the method comes to its end; and a rule an instruction ===== -/
abbrev zIni : Type := Nat → Nat → Bool
/-- all references that are set once are set -/
def zA1 : zIni := fun _ _ => true
/-- launch, classes and slots, array classes, where the cells begin -/
abbrev zB : Type := Launch × va_G × (Nat → ClassId) × Nat
def zfv (base : Nat) (ini : zIni) (M : zM) (k c j : Nat) : Value := match zsk c j with
  | 0 => .int (Int32.ofInt (gi M k j))
  | 1 => if ini k j = true then .ref (base + zsf k j) else .null
  | _ => va_rf ((gr M k j).map (base + ·))
def zarr (base : Nat) (M : zM) (k t n : Nat) : vp_A := (n, if t = 3 then .inr (.inr (.inr (.inr (fun j => (gr M k j).map (base + ·))))) else .inl (fun j => Int32.ofInt (gi M k j)))
def zcell (B : zB) (ini : zIni) (M : zM) (k : Nat) : va_E := match zkd k with
  | .inl q => .inl (B.2.2.1 q.1, zarr B.2.2.2 M k q.1 q.2)
  | .inr c => .inr (c, (List.range (znf c)).map (zfv B.2.2.2 ini M k c))
def zat (B : zB) (ini : zIni) (M : zM) (k : Nat) (H : Heap) : Prop := va_at B.2.1 vwCl (B.2.2.2 + k, zcell B ini M k) H
/-- the numbers and references are in their bounds -/
def zwf (ini : zIni) (M : zM) : Prop := (∀ k j, zin (gi M k j)) ∧ (∀ k j r, gr M k j = some r → r < gn M) ∧ ∀ k j, ini k j = true → zsf k j < gn M
def zrel (B : zB) (ini : zIni) (M : zM) (H : Heap) : Prop := H.size = B.2.2.2 + gn M ∧ (∀ k, k < gn M → zat B ini M k H) ∧ zwf ini M
def ztys (B : zB) : List (ClassId × FieldType) := [(B.2.2.1 0, zta 0), (B.2.2.1 1, zta 1), (B.2.2.1 2, zta 2), (B.2.2.1 3, zta 3)]
def zKn (B : zB) (U : State) : Prop := va_K B.2.1 vwCl (ztys B) U ∧ va_AO RX5 U ∧ va_Nw (.methodLinkNest RX0 98 yX8_isName "ShrinkDesk") U ∧ va_Nw (.methodLinkNest RX0 92 yX8_isTail "ShrinkDesk") U
theorem zKn.warm {B : zB} {s U : State} (hW : s.WarmedH U.vm) (h : zKn B s) : zKn B U := ⟨va_K.moved hW.alike h.1, h.2.1.moved hW.alike, va_Nw.warmM hW h.2.2.1, va_Nw.warmM hW h.2.2.2⟩
theorem zKn.same {B : zB} {s U : State} (hv : s.vm = U.vm) (h : zKn B s) : zKn B U := ⟨va_K.moved (by rw [hv]; exact Vm.Alike.refl _) h.1, h.2.1.moved (by rw [hv]; exact Vm.Alike.refl _), va_Nw.same rfl hv h.2.2.1, va_Nw.same rfl hv h.2.2.2⟩
/-- a frame: its method, its room, how many cells there were, what else is known of its start, what its end must be -/
abbrev zE : Type := zY × Room × Nat × (State → Prop) × (List Frame → Array Value → State → State → Prop)
def zFix (y : zY) (p : Program) (s : State) (m : MethodId) (args : Array Value) (meth : Method) (c : Code) : Prop :=
  p.tables.exec = Jvm.exec ∧ c.code = y.2.1 ∧ c.maxLocals = y.2.2.1 ∧ s.vm.findClass y.1.cls = some m.cls ∧ (∀ w ∈ zTB, w.before args s = true) ∧ meth.sig.returnType = y.2.2.2 ∧ meth.locks = false ∧ (y.1.name = "<init>" → meth.name = "<init>")
def zW (B : zB) (E : zE) (pc : Nat) (ls : List (Option zV)) (st : List zV) (ini : zIni) (M : zM) (ce sl : Nat) : Prop :=
  ∀ (p : Program) (e : Env) (s : State) (m : MethodId) (args : Array Value) (below : List Frame) (meth : Method) (c : Code) (H : Heap) (locs : List Loc) (lsr : Array Slot),
    zFix E.1 p s m args meth c → E.2.2.2.1 s → zKn B s → zrel B ini M H → va_S (fun q => B.2.2.2 ≤ q) s.heap H locs → B.2.2.2 ≤ s.heap.size → E.2.2.1 ≤ gn M → zlh B.2.2.2 lsr E.1.2.2.1 ls → (∀ v, some v ∈ ls → zokV (gn M) v) → (∀ v ∈ st, zokV (gn M) v) →
    W p B.1 e E.2.1 s m args below meth c H locs ce sl (E.2.2.2.2 below args s) (F0 m pc lsr (st.map (ztr B.2.2.2)))
theorem zmem_of {ls : List (Option zV)} {i : Nat} {v : zV} (h : ls[i]? = some (some v)) : some v ∈ ls := List.mem_of_getElem? h
theorem zok_set {n : Nat} {ls : List (Option zV)} {i : Nat} {w : zV} (h : ∀ v, some v ∈ ls → zokV n v) (hw : zokV n w) : ∀ v, some v ∈ ls.set i (some w) → zokV n v := by
  intro v hv
  rcases List.mem_or_eq_of_mem_set hv with h1 | h1
  · exact h v h1
  · have e : v = w := by simpa using h1
    rw [e]; exact hw
section ZR
variable {B : zB} {E : zE} {pc : Nat} {ls : List (Option zV)} {st : List zV} {ini : zIni} {M : zM} {ce sl : Nat}
theorem zW.mp {pc2 : Nat} {st1 st2 : List zV}
    (hok : (∀ v ∈ st1, zokV (gn M) v) → ∀ v ∈ st2, zokV (gn M) v)
    (h : ∀ {p : Program} {e : Env} {s : State} {m : MethodId} {args : Array Value} {below : List Frame} {meth : Method} {c : Code} {H : Heap} {locs : List Loc} {lsr : Array Slot} {Q : State → Prop}, p.tables.exec = Jvm.exec → c.code = E.1.2.1 → (∀ v ∈ st1, zokV (gn M) v) →
      W p B.1 e E.2.1 s m args below meth c H locs ce sl Q (F0 m pc2 lsr (st2.map (ztr B.2.2.2))) → W p B.1 e E.2.1 s m args below meth c H locs ce sl Q (F0 m pc lsr (st1.map (ztr B.2.2.2))))
    (k : zW B E pc2 ls st2 ini M ce sl) : zW B E pc ls st1 ini M ce sl := by
  intro p e s m args below meth c H locs lsr hF hE hK hR hS hb hn hl hlo hst
  exact h hF.1 hF.2.1 hst (k p e s m args below meth c H locs lsr hF hE hK hR hS hb hn hl hlo (hok hst))
theorem zok_cons {n : Nat} {v : zV} {st : List zV} (hv : zokV n v) (h : ∀ v ∈ st, zokV n v) : ∀ w ∈ v :: st, zokV n w := fun w hw => by
  rcases List.mem_cons.mp hw with rfl | hw
  · exact hv
  · exact h w hw
theorem zok_t {n : Nat} {v : zV} {st : List zV} (h : ∀ w ∈ v :: st, zokV n w) : ∀ w ∈ st, zokV n w := fun w hw => h w (List.mem_cons_of_mem _ hw)
theorem zok_h {n : Nat} {v : zV} {st : List zV} (h : ∀ w ∈ v :: st, zokV n w) : zokV n v := h v List.mem_cons_self
theorem r_eq {pc' : Nat} {ls' : List (Option zV)} {st' : List zV} {M' : zM} (h1 : pc' = pc) (h2 : ls' = ls) (h3 : st' = st) (h4 : M' = M) (k : zW B E pc' ls' st' ini M' ce sl) : zW B E pc ls st ini M ce sl := by
  subst h1; subst h2; subst h3; subst h4; exact k
/-! constants -/
theorem r_iconst {n : Int} (hd : decode E.1.2.1 pc = .ok (.iconst n, 1)) (hn : zin n) (k : zW B E (pc + 1) ls (zI n :: st) ini M ce sl) : zW B E pc ls st ini M ce sl :=
  zW.mp (fun h => zok_cons (v := zI n) hn h) (fun hx hb _ kk => lv_iconst hx hb hd rfl kk) k
theorem r_bipush {n : Int} (hd : decode E.1.2.1 pc = .ok (.bipush n, 2)) (hn : zin n) (he : (Int8.ofInt n).toInt32 = Int32.ofInt n) (k : zW B E (pc + 2) ls (zI n :: st) ini M ce sl) : zW B E pc ls st ini M ce sl :=
  zW.mp (fun h => zok_cons (v := zI n) hn h) (fun hx hb _ kk => lv_bipush hx hb hd he kk) k
theorem r_sipush {n : Int} (hd : decode E.1.2.1 pc = .ok (.sipush n, 3)) (hn : zin n) (he : (Int16.ofInt n).toInt32 = Int32.ofInt n) (k : zW B E (pc + 3) ls (zI n :: st) ini M ce sl) : zW B E pc ls st ini M ce sl :=
  zW.mp (fun h => zok_cons (v := zI n) hn h) (fun hx hb _ kk => lv_sipush hx hb hd he kk) k
theorem r_null (hd : decode E.1.2.1 pc = .ok (.aconst_null, 1)) (k : zW B E (pc + 1) ls (zN :: st) ini M ce sl) : zW B E pc ls st ini M ce sl :=
  zW.mp (fun h => zok_cons (v := zN) trivial h) (fun hx hb _ kk => lv_null hx hb hd kk) k
theorem r_ldc {idx : Nat} {n : Int} (hd : decode E.1.2.1 pc = .ok (.ldc idx, 2)) (hw : Cond.constant E.1.1.cls idx (Int32.ofInt n) ∈ zTB) (hn : zin n) (k : zW B E (pc + 2) ls (zI n :: st) ini M ce sl) : zW B E pc ls st ini M ce sl := by
  intro p e s m args below meth c H locs lsr hF hE hK hR hS hb hn' hl hlo hst
  exact lv_ldc hF.1 hF.2.1 hF.2.2.2.1 (hF.2.2.2.2.1 _ hw) hd (k p e s m args below meth c H locs lsr hF hE hK hR hS hb hn' hl hlo (zok_cons (v := zI n) hn hst))
/-! locals -/
theorem r_iload_n {k4 : Fin 4} {i : Nat} {x : Int} (hd : decode E.1.2.1 pc = .ok (.iload_n k4, 1)) (hi : (k4 : Nat) = i) (hx : ls[i]? = some (some (zI x))) (k : zW B E (pc + 1) ls (zI x :: st) ini M ce sl) : zW B E pc ls st ini M ce sl := by
  intro p e s m args below meth c H locs lsr hF hE hK hR hS hb hn hl hlo hst
  exact lv_iload_n hF.1 hF.2.1 hd hi (hl.2.2.2 _ _ hx) (k p e s m args below meth c H locs lsr hF hE hK hR hS hb hn hl hlo (zok_cons (hlo _ (zmem_of hx)) hst))
theorem r_iload {i : Nat} {x : Int} (hd : decode E.1.2.1 pc = .ok (.iload i, 2)) (hx : ls[i]? = some (some (zI x))) (k : zW B E (pc + 2) ls (zI x :: st) ini M ce sl) : zW B E pc ls st ini M ce sl := by
  intro p e s m args below meth c H locs lsr hF hE hK hR hS hb hn hl hlo hst
  exact lv_iload hF.1 hF.2.1 hd (hl.2.2.2 _ _ hx) (k p e s m args below meth c H locs lsr hF hE hK hR hS hb hn hl hlo (zok_cons (hlo _ (zmem_of hx)) hst))
theorem r_aload_n {k4 : Fin 4} {i : Nat} {v : Option Nat ⊕ Nat} (hd : decode E.1.2.1 pc = .ok (.aload_n k4, 1)) (hi : (k4 : Nat) = i) (hx : ls[i]? = some (some (.inr v))) (k : zW B E (pc + 1) ls (.inr v :: st) ini M ce sl) : zW B E pc ls st ini M ce sl := by
  intro p e s m args below meth c H locs lsr hF hE hK hR hS hb hn hl hlo hst
  have kk := k p e s m args below meth c H locs lsr hF hE hK hR hS hb hn hl hlo (zok_cons (hlo _ (zmem_of hx)) hst)
  have h1 := hl.2.2.2 _ _ hx
  match v, h1, kk with
  | .inl none, h1, kk => exact lv_aload_nN hF.1 hF.2.1 hd hi h1 kk
  | .inl (some a), h1, kk => exact lv_aload_n hF.1 hF.2.1 hd hi h1 kk
  | .inr a, h1, kk => exact lv_aload_n hF.1 hF.2.1 hd hi h1 kk
theorem r_aload {i : Nat} {v : Option Nat ⊕ Nat} (hd : decode E.1.2.1 pc = .ok (.aload i, 2)) (hx : ls[i]? = some (some (.inr v))) (k : zW B E (pc + 2) ls (.inr v :: st) ini M ce sl) : zW B E pc ls st ini M ce sl := by
  intro p e s m args below meth c H locs lsr hF hE hK hR hS hb hn hl hlo hst
  have kk := k p e s m args below meth c H locs lsr hF hE hK hR hS hb hn hl hlo (zok_cons (hlo _ (zmem_of hx)) hst)
  have h1 := hl.2.2.2 _ _ hx
  match v, h1, kk with
  | .inl none, h1, kk => exact lv_aloadN hF.1 hF.2.1 hd h1 kk
  | .inl (some a), h1, kk => exact lv_aload hF.1 hF.2.1 hd h1 kk
  | .inr a, h1, kk => exact lv_aload hF.1 hF.2.1 hd h1 kk
theorem r_istore_n {k4 : Fin 4} {i : Nat} {x : Int} {ls2 : List (Option zV)} (hd : decode E.1.2.1 pc = .ok (.istore_n k4, 1)) (hi : (k4 : Nat) = i) (hi2 : i < ls.length) (hs : ls.set i (some (zI x)) = ls2) (k : zW B E (pc + 1) ls2 st ini M ce sl) : zW B E pc ls (zI x :: st) ini M ce sl := by
  subst hs
  intro p e s m args below meth c H locs lsr hF hE hK hR hS hb hn hl hlo hst
  exact lv_istore_n hF.1 hF.2.1 hd hi hl.all (Nat.lt_of_lt_of_le hi2 hl.2.2.1) rfl (fun ls' h' => k p e s m args below meth c H locs ls' hF hE hK hR hS hb hn (hl.store (w := zI x) hi2 h') (zok_set hlo (zok_h hst)) (zok_t hst))
theorem r_istore {i : Nat} {x : Int} {ls2 : List (Option zV)} (hd : decode E.1.2.1 pc = .ok (.istore i, 2)) (hi2 : i < ls.length) (hs : ls.set i (some (zI x)) = ls2) (k : zW B E (pc + 2) ls2 st ini M ce sl) : zW B E pc ls (zI x :: st) ini M ce sl := by
  subst hs
  intro p e s m args below meth c H locs lsr hF hE hK hR hS hb hn hl hlo hst
  exact lv_istore hF.1 hF.2.1 hd hl.all (Nat.lt_of_lt_of_le hi2 hl.2.2.1) rfl (fun ls' h' => k p e s m args below meth c H locs ls' hF hE hK hR hS hb hn (hl.store (w := zI x) hi2 h') (zok_set hlo (zok_h hst)) (zok_t hst))
theorem r_astore_n {k4 : Fin 4} {i : Nat} {v : Option Nat ⊕ Nat} {ls2 : List (Option zV)} (hd : decode E.1.2.1 pc = .ok (.astore_n k4, 1)) (hi : (k4 : Nat) = i) (hi2 : i < ls.length) (hs : ls.set i (some (.inr v)) = ls2) (k : zW B E (pc + 1) ls2 st ini M ce sl) : zW B E pc ls (.inr v :: st) ini M ce sl := by
  subst hs
  intro p e s m args below meth c H locs lsr hF hE hK hR hS hb hn hl hlo hst
  match v, k, hst with
  | .inl none, k, hst => exact lv_astore_nN hF.1 hF.2.1 hd hi hl.all (Nat.lt_of_lt_of_le hi2 hl.2.2.1) rfl (fun ls' h' => k p e s m args below meth c H locs ls' hF hE hK hR hS hb hn (hl.store (w := zN) hi2 h') (zok_set hlo (zok_h hst)) (zok_t hst))
  | .inl (some a), k, hst => exact lv_astore_n hF.1 hF.2.1 hd hi hl.all (Nat.lt_of_lt_of_le hi2 hl.2.2.1) rfl (fun ls' h' => k p e s m args below meth c H locs ls' hF hE hK hR hS hb hn (hl.store (w := zR a) hi2 h') (zok_set hlo (zok_h hst)) (zok_t hst))
  | .inr a, k, hst => exact lv_astore_n hF.1 hF.2.1 hd hi hl.all (Nat.lt_of_lt_of_le hi2 hl.2.2.1) rfl (fun ls' h' => k p e s m args below meth c H locs ls' hF hE hK hR hS hb hn (hl.store (w := zX a) hi2 h') (zok_set hlo (zok_h hst)) (zok_t hst))
theorem r_astore {i : Nat} {v : Option Nat ⊕ Nat} {ls2 : List (Option zV)} (hd : decode E.1.2.1 pc = .ok (.astore i, 2)) (hi2 : i < ls.length) (hs : ls.set i (some (.inr v)) = ls2) (k : zW B E (pc + 2) ls2 st ini M ce sl) : zW B E pc ls (.inr v :: st) ini M ce sl := by
  subst hs
  intro p e s m args below meth c H locs lsr hF hE hK hR hS hb hn hl hlo hst
  match v, k, hst with
  | .inl none, k, hst => exact lv_astoreN hF.1 hF.2.1 hd hl.all (Nat.lt_of_lt_of_le hi2 hl.2.2.1) rfl (fun ls' h' => k p e s m args below meth c H locs ls' hF hE hK hR hS hb hn (hl.store (w := zN) hi2 h') (zok_set hlo (zok_h hst)) (zok_t hst))
  | .inl (some a), k, hst => exact lv_astore hF.1 hF.2.1 hd hl.all (Nat.lt_of_lt_of_le hi2 hl.2.2.1) rfl (fun ls' h' => k p e s m args below meth c H locs ls' hF hE hK hR hS hb hn (hl.store (w := zR a) hi2 h') (zok_set hlo (zok_h hst)) (zok_t hst))
  | .inr a, k, hst => exact lv_astore hF.1 hF.2.1 hd hl.all (Nat.lt_of_lt_of_le hi2 hl.2.2.1) rfl (fun ls' h' => k p e s m args below meth c H locs ls' hF hE hK hR hS hb hn (hl.store (w := zX a) hi2 h') (zok_set hlo (zok_h hst)) (zok_t hst))
theorem zlv_get {base : Nat} {ls : List (Option zV)} {i : Nat} {v : zV} (h : ls[i]? = some (some v)) : ∃ q : Nat, (zlv base 0 ls)[q]? = some (i, ztr base v) := by
  have hm := zlv_mem (base := base) (k := 0) h
  rw [Nat.zero_add] at hm
  exact List.getElem?_of_mem hm
theorem zlt_of {α : Type} {l : List α} {i : Nat} {x : α} (h : l[i]? = some x) : i < l.length := (List.getElem?_eq_some_iff.mp h).1
theorem r_iinc {i : Nat} {n x : Int} {ls2 : List (Option zV)} (hd : decode E.1.2.1 pc = .ok (.iinc i n, 3)) (hx : ls[i]? = some (some (zI x))) (hr : zin (x + n)) (hs : ls.set i (some (zI (x + n))) = ls2) (k : zW B E (pc + 3) ls2 st ini M ce sl) : zW B E pc ls st ini M ce sl := by
  subst hs
  intro p e s m args below meth c H locs lsr hF hE hK hR hS hb hn hl hlo hst
  obtain ⟨q, hq⟩ := zlv_get (base := B.2.2.2) hx
  exact lv_iinc (v := Int32.ofInt (x + n)) hF.1 hF.2.1 hd hl.all hq (by rw [Int32.ofInt_add]) (Nat.lt_of_lt_of_le (zlt_of hx) hl.2.2.1) rfl (fun ls' h' => k p e s m args below meth c H locs ls' hF hE hK hR hS hb hn (hl.store (w := zI (x + n)) (zlt_of hx) h') (zok_set hlo hr) hst)
/-! the stack -/
theorem r_dup {v : zV} (hd : decode E.1.2.1 pc = .ok (.dup, 1)) (k : zW B E (pc + 1) ls (v :: v :: st) ini M ce sl) : zW B E pc ls (v :: st) ini M ce sl :=
  zW.mp (fun h => zok_cons (zok_h h) h) (fun hx hb _ kk => lv_dup hx hb hd (ztr_cat _ _) kk) k
theorem r_dup2 {v w : zV} (hd : decode E.1.2.1 pc = .ok (.dup2, 1)) (k : zW B E (pc + 1) ls (v :: w :: v :: w :: st) ini M ce sl) : zW B E pc ls (v :: w :: st) ini M ce sl :=
  zW.mp (fun h => zok_cons (zok_h h) (zok_cons (zok_h (zok_t h)) h)) (fun hx hb _ kk => lv_dup2_11 hx hb hd (ztr_cat _ _) (ztr_cat _ _) kk) k
theorem r_pop {v : zV} (hd : decode E.1.2.1 pc = .ok (.pop, 1)) (k : zW B E (pc + 1) ls st ini M ce sl) : zW B E pc ls (v :: st) ini M ce sl :=
  zW.mp (fun h => zok_t h) (fun hx hb _ kk => lv_pop hx hb hd (ztr_cat _ _) kk) k
theorem r_goto {off : Int} {tgt : Nat} (hd : decode E.1.2.1 pc = .ok (.goto off, 3)) (ht : (pc : Int) + off = (tgt : Int)) (k : zW B E tgt ls st ini M ce sl) : zW B E pc ls st ini M ce sl :=
  zW.mp (fun h => h) (fun hx hb _ kk => lv_goto hx hb hd ht kk) k
/-! arithmetic -/
theorem r_iadd {a b : Int} (hd : decode E.1.2.1 pc = .ok (.iadd, 1)) (hr : zin (a + b)) (k : zW B E (pc + 1) ls (zI (a + b) :: st) ini M ce sl) : zW B E pc ls (zI b :: zI a :: st) ini M ce sl :=
  zW.mp (fun h => zok_cons (v := zI (a + b)) hr (zok_t (zok_t h))) (fun hx hb _ kk => lv_iadd hx hb hd (by rw [← Int32.ofInt_add]; exact kk)) k
theorem r_isub {a b : Int} (hd : decode E.1.2.1 pc = .ok (.isub, 1)) (hr : zin (a - b)) (k : zW B E (pc + 1) ls (zI (a - b) :: st) ini M ce sl) : zW B E pc ls (zI b :: zI a :: st) ini M ce sl :=
  zW.mp (fun h => zok_cons (v := zI (a - b)) hr (zok_t (zok_t h))) (fun hx hb _ kk => lv_isub hx hb hd (by rw [← Int32.ofInt_sub]; exact kk)) k
theorem r_imul {a b : Int} (hd : decode E.1.2.1 pc = .ok (.imul, 1)) (hr : zin (a * b)) (k : zW B E (pc + 1) ls (zI (a * b) :: st) ini M ce sl) : zW B E pc ls (zI b :: zI a :: st) ini M ce sl :=
  zW.mp (fun h => zok_cons (v := zI (a * b)) hr (zok_t (zok_t h))) (fun hx hb _ kk => lv_imul hx hb hd (by rw [← Int32.ofInt_mul]; exact kk)) k
theorem zdiv {a b : Int} (ha : zin a) (hb : zin b) (h : 0 ≤ a ∧ 0 < b) : Int32.ofInt a / Int32.ofInt b = Int32.ofInt (a / b) := by
  rw [← Int.tdiv_eq_ediv_of_nonneg h.1]
  have e1 : Int32.minValue.toInt = -2147483648 := by decide
  have e2 : Int32.maxValue.toInt = 2147483647 := by decide
  exact (Int32.ofInt_tdiv (by omega) (by omega) (by omega) (by omega)).symm
theorem zdiv_in {a b : Int} (ha : zin a) (h : 0 ≤ a ∧ 0 < b) : zin (a / b) := by
  have h1 : 0 ≤ a / b := Int.ediv_nonneg h.1 (by omega)
  have h2 : a / b ≤ a := Int.ediv_le_self b h.1
  omega
theorem r_idiv {a b : Int} (hd : decode E.1.2.1 pc = .ok (.idiv, 1)) (hr : 0 ≤ a ∧ 0 < b) (k : zW B E (pc + 1) ls (zI (a / b) :: st) ini M ce sl) : zW B E pc ls (zI b :: zI a :: st) ini M ce sl :=
  zW.mp (fun h => zok_cons (v := zI (a / b)) (zdiv_in (zok_h (zok_t h)) hr) (zok_t (zok_t h))) (fun hx hb hok kk => lv_idiv hx hb hd (fun q => by
      have hbz : zin b := zok_h hok
      rw [zeq0 hbz] at q; omega) (by rw [zdiv (zok_h (zok_t hok)) (zok_h hok) hr]; exact kk)) k
theorem r_irem {a b : Int} (hd : decode E.1.2.1 pc = .ok (.irem, 1)) (hr : 0 ≤ a ∧ 0 < b) (k : zW B E (pc + 1) ls (zI (a % b) :: st) ini M ce sl) : zW B E pc ls (zI b :: zI a :: st) ini M ce sl :=
  zW.mp (fun h => zok_cons (v := zI (a % b)) (by
      have hbz : zin b := zok_h h
      have h1 := Int.emod_nonneg a (by omega : b ≠ 0)
      have h2 := Int.emod_lt_of_pos a hr.2
      show zin _
      omega) (zok_t (zok_t h))) (fun hx hb hok kk => lv_irem hx hb hd (fun q => by
      have hbz : zin b := zok_h hok
      rw [zeq0 hbz] at q; omega) (by
      rw [zdiv (zok_h (zok_t hok)) (zok_h hok) hr, ← Int32.ofInt_mul, ← Int32.ofInt_sub]
      have e : a - a / b * b = a % b := by
        have := Int.emod_add_mul_ediv a b
        have e2 : a / b * b = b * (a / b) := Int.mul_comm _ _
        omega
      rw [e]; exact kk)) k
theorem r_iand {a b : Int} (hd : decode E.1.2.1 pc = .ok (.iand, 1)) (k : zW B E (pc + 1) ls (zI (zand a b) :: st) ini M ce sl) : zW B E pc ls (zI b :: zI a :: st) ini M ce sl :=
  zW.mp (fun h => zok_cons (v := zI (zand a b)) (zin_of _) (zok_t (zok_t h))) (fun hx hb hok kk => lv_iand hx hb hd (by rw [← zof_toInt (Int32.ofInt a &&& Int32.ofInt b)]; exact kk)) k
theorem r_ior {a b : Int} (hd : decode E.1.2.1 pc = .ok (.ior, 1)) (k : zW B E (pc + 1) ls (zI (zor a b) :: st) ini M ce sl) : zW B E pc ls (zI b :: zI a :: st) ini M ce sl :=
  zW.mp (fun h => zok_cons (v := zI (zor a b)) (zin_of _) (zok_t (zok_t h))) (fun hx hb hok kk => lv_ior hx hb hd (by rw [← zof_toInt (Int32.ofInt a ||| Int32.ofInt b)]; exact kk)) k
theorem r_ixor {a b : Int} (hd : decode E.1.2.1 pc = .ok (.ixor, 1)) (k : zW B E (pc + 1) ls (zI (zxor a b) :: st) ini M ce sl) : zW B E pc ls (zI b :: zI a :: st) ini M ce sl :=
  zW.mp (fun h => zok_cons (v := zI (zxor a b)) (zin_of _) (zok_t (zok_t h))) (fun hx hb hok kk => lv_ixor hx hb hd (by rw [← zof_toInt (Int32.ofInt a ^^^ Int32.ofInt b)]; exact kk)) k
theorem r_ishl {a b : Int} (hd : decode E.1.2.1 pc = .ok (.ishl, 1)) (k : zW B E (pc + 1) ls (zI (zshl a b) :: st) ini M ce sl) : zW B E pc ls (zI b :: zI a :: st) ini M ce sl :=
  zW.mp (fun h => zok_cons (v := zI (zshl a b)) (zin_of _) (zok_t (zok_t h))) (fun hx hb hok kk => lv_ishl hx hb hd (by rw [← zof_toInt (Int32.ofInt a <<< (Int32.ofInt b &&& 31))]; exact kk)) k
theorem r_ishr {a b : Int} (hd : decode E.1.2.1 pc = .ok (.ishr, 1)) (k : zW B E (pc + 1) ls (zI (zshr a b) :: st) ini M ce sl) : zW B E pc ls (zI b :: zI a :: st) ini M ce sl :=
  zW.mp (fun h => zok_cons (v := zI (zshr a b)) (zin_of _) (zok_t (zok_t h))) (fun hx hb hok kk => lv_ishr hx hb hd (by rw [← zof_toInt (Int32.ofInt a >>> (Int32.ofInt b &&& 31))]; exact kk)) k
theorem r_i2c {a : Int} (hd : decode E.1.2.1 pc = .ok (.i2c, 1)) (k : zW B E (pc + 1) ls (zI (a % 65536) :: st) ini M ce sl) : zW B E pc ls (zI a :: st) ini M ce sl :=
  zW.mp (fun h => zok_cons (v := zI (a % 65536)) (by show zin _; omega) (zok_t h)) (fun hx hb _ kk => lv_i2c hx hb hd zch kk) k
/-! branches -/
theorem r_icmp_eq {a b : Int} {off : Int} {tgt : Nat} (hd : decode E.1.2.1 pc = .ok (.if_icmp .eq off, 3)) (ht : (pc : Int) + off = (tgt : Int)) (kt : a = b → zW B E tgt ls st ini M ce sl) (kf : ¬ a = b → zW B E (pc + 3) ls st ini M ce sl) : zW B E pc ls (zI b :: zI a :: st) ini M ce sl := by
  intro p e s m args below meth c H locs lsr hF hE hK hR hS hbs hn hl hlo hst
  have ha : zin a := zok_h (zok_t hst)
  have hb : zin b := zok_h hst
  have kt' := fun q => kt q p e s m args below meth c H locs lsr hF hE hK hR hS hbs hn hl hlo (zok_t (zok_t hst))
  have kf' := fun q => kf q p e s m args below meth c H locs lsr hF hE hK hR hS hbs hn hl hlo (zok_t (zok_t hst))
  exact lv_icmp_eq hF.1 hF.2.1 hd ht (fun q => kt' ((zeq ha hb).mp q)) (fun q => kf' (fun z => q ((zeq ha hb).mpr z)))
theorem r_if_eq {a : Int} {off : Int} {tgt : Nat} (hd : decode E.1.2.1 pc = .ok (.ifCond .eq off, 3)) (ht : (pc : Int) + off = (tgt : Int)) (kt : a = 0 → zW B E tgt ls st ini M ce sl) (kf : ¬ a = 0 → zW B E (pc + 3) ls st ini M ce sl) : zW B E pc ls (zI a :: st) ini M ce sl := by
  intro p e s m args below meth c H locs lsr hF hE hK hR hS hbs hn hl hlo hst
  have ha : zin a := zok_h hst
  have hb : zin 0 := by decide
  have kt' := fun q => kt q p e s m args below meth c H locs lsr hF hE hK hR hS hbs hn hl hlo (zok_t hst)
  have kf' := fun q => kf q p e s m args below meth c H locs lsr hF hE hK hR hS hbs hn hl hlo (zok_t hst)
  exact lv_if_eq hF.1 hF.2.1 hd ht (fun q => kt' ((zeq ha hb).mp q)) (fun q => kf' (fun z => q ((zeq ha hb).mpr z)))
theorem r_icmp_ne {a b : Int} {off : Int} {tgt : Nat} (hd : decode E.1.2.1 pc = .ok (.if_icmp .ne off, 3)) (ht : (pc : Int) + off = (tgt : Int)) (kt : ¬ a = b → zW B E tgt ls st ini M ce sl) (kf : a = b → zW B E (pc + 3) ls st ini M ce sl) : zW B E pc ls (zI b :: zI a :: st) ini M ce sl := by
  intro p e s m args below meth c H locs lsr hF hE hK hR hS hbs hn hl hlo hst
  have ha : zin a := zok_h (zok_t hst)
  have hb : zin b := zok_h hst
  have kt' := fun q => kt q p e s m args below meth c H locs lsr hF hE hK hR hS hbs hn hl hlo (zok_t (zok_t hst))
  have kf' := fun q => kf q p e s m args below meth c H locs lsr hF hE hK hR hS hbs hn hl hlo (zok_t (zok_t hst))
  exact lv_icmp_ne hF.1 hF.2.1 hd ht (fun q => kt' (fun z => q ((zeq ha hb).mpr z))) (fun q => kf' ((zeq ha hb).mp q))
theorem r_if_ne {a : Int} {off : Int} {tgt : Nat} (hd : decode E.1.2.1 pc = .ok (.ifCond .ne off, 3)) (ht : (pc : Int) + off = (tgt : Int)) (kt : ¬ a = 0 → zW B E tgt ls st ini M ce sl) (kf : a = 0 → zW B E (pc + 3) ls st ini M ce sl) : zW B E pc ls (zI a :: st) ini M ce sl := by
  intro p e s m args below meth c H locs lsr hF hE hK hR hS hbs hn hl hlo hst
  have ha : zin a := zok_h hst
  have hb : zin 0 := by decide
  have kt' := fun q => kt q p e s m args below meth c H locs lsr hF hE hK hR hS hbs hn hl hlo (zok_t hst)
  have kf' := fun q => kf q p e s m args below meth c H locs lsr hF hE hK hR hS hbs hn hl hlo (zok_t hst)
  exact lv_if_ne hF.1 hF.2.1 hd ht (fun q => kt' (fun z => q ((zeq ha hb).mpr z))) (fun q => kf' ((zeq ha hb).mp q))
theorem r_icmp_lt {a b : Int} {off : Int} {tgt : Nat} (hd : decode E.1.2.1 pc = .ok (.if_icmp .lt off, 3)) (ht : (pc : Int) + off = (tgt : Int)) (kt : a < b → zW B E tgt ls st ini M ce sl) (kf : b ≤ a → zW B E (pc + 3) ls st ini M ce sl) : zW B E pc ls (zI b :: zI a :: st) ini M ce sl := by
  intro p e s m args below meth c H locs lsr hF hE hK hR hS hbs hn hl hlo hst
  have ha : zin a := zok_h (zok_t hst)
  have hb : zin b := zok_h hst
  have kt' := fun q => kt q p e s m args below meth c H locs lsr hF hE hK hR hS hbs hn hl hlo (zok_t (zok_t hst))
  have kf' := fun q => kf q p e s m args below meth c H locs lsr hF hE hK hR hS hbs hn hl hlo (zok_t (zok_t hst))
  exact lv_icmp_lt hF.1 hF.2.1 hd ht (fun q => kt' ((zlt ha hb).mp q)) (fun q => kf' (Int.not_lt.mp (fun z => q ((zlt ha hb).mpr z))))
theorem r_if_lt {a : Int} {off : Int} {tgt : Nat} (hd : decode E.1.2.1 pc = .ok (.ifCond .lt off, 3)) (ht : (pc : Int) + off = (tgt : Int)) (kt : a < 0 → zW B E tgt ls st ini M ce sl) (kf : 0 ≤ a → zW B E (pc + 3) ls st ini M ce sl) : zW B E pc ls (zI a :: st) ini M ce sl := by
  intro p e s m args below meth c H locs lsr hF hE hK hR hS hbs hn hl hlo hst
  have ha : zin a := zok_h hst
  have hb : zin 0 := by decide
  have kt' := fun q => kt q p e s m args below meth c H locs lsr hF hE hK hR hS hbs hn hl hlo (zok_t hst)
  have kf' := fun q => kf q p e s m args below meth c H locs lsr hF hE hK hR hS hbs hn hl hlo (zok_t hst)
  exact lv_if_lt hF.1 hF.2.1 hd ht (fun q => kt' ((zlt ha hb).mp q)) (fun q => kf' (Int.not_lt.mp (fun z => q ((zlt ha hb).mpr z))))
theorem r_icmp_ge {a b : Int} {off : Int} {tgt : Nat} (hd : decode E.1.2.1 pc = .ok (.if_icmp .ge off, 3)) (ht : (pc : Int) + off = (tgt : Int)) (kt : b ≤ a → zW B E tgt ls st ini M ce sl) (kf : a < b → zW B E (pc + 3) ls st ini M ce sl) : zW B E pc ls (zI b :: zI a :: st) ini M ce sl := by
  intro p e s m args below meth c H locs lsr hF hE hK hR hS hbs hn hl hlo hst
  have ha : zin a := zok_h (zok_t hst)
  have hb : zin b := zok_h hst
  have kt' := fun q => kt q p e s m args below meth c H locs lsr hF hE hK hR hS hbs hn hl hlo (zok_t (zok_t hst))
  have kf' := fun q => kf q p e s m args below meth c H locs lsr hF hE hK hR hS hbs hn hl hlo (zok_t (zok_t hst))
  exact lv_icmp_ge hF.1 hF.2.1 hd ht (fun q => kt' ((zle hb ha).mp q)) (fun q => kf' (Int.not_le.mp (fun z => q ((zle hb ha).mpr z))))
theorem r_if_ge {a : Int} {off : Int} {tgt : Nat} (hd : decode E.1.2.1 pc = .ok (.ifCond .ge off, 3)) (ht : (pc : Int) + off = (tgt : Int)) (kt : 0 ≤ a → zW B E tgt ls st ini M ce sl) (kf : a < 0 → zW B E (pc + 3) ls st ini M ce sl) : zW B E pc ls (zI a :: st) ini M ce sl := by
  intro p e s m args below meth c H locs lsr hF hE hK hR hS hbs hn hl hlo hst
  have ha : zin a := zok_h hst
  have hb : zin 0 := by decide
  have kt' := fun q => kt q p e s m args below meth c H locs lsr hF hE hK hR hS hbs hn hl hlo (zok_t hst)
  have kf' := fun q => kf q p e s m args below meth c H locs lsr hF hE hK hR hS hbs hn hl hlo (zok_t hst)
  exact lv_if_ge hF.1 hF.2.1 hd ht (fun q => kt' ((zle hb ha).mp q)) (fun q => kf' (Int.not_le.mp (fun z => q ((zle hb ha).mpr z))))
theorem r_icmp_gt {a b : Int} {off : Int} {tgt : Nat} (hd : decode E.1.2.1 pc = .ok (.if_icmp .gt off, 3)) (ht : (pc : Int) + off = (tgt : Int)) (kt : b < a → zW B E tgt ls st ini M ce sl) (kf : a ≤ b → zW B E (pc + 3) ls st ini M ce sl) : zW B E pc ls (zI b :: zI a :: st) ini M ce sl := by
  intro p e s m args below meth c H locs lsr hF hE hK hR hS hbs hn hl hlo hst
  have ha : zin a := zok_h (zok_t hst)
  have hb : zin b := zok_h hst
  have kt' := fun q => kt q p e s m args below meth c H locs lsr hF hE hK hR hS hbs hn hl hlo (zok_t (zok_t hst))
  have kf' := fun q => kf q p e s m args below meth c H locs lsr hF hE hK hR hS hbs hn hl hlo (zok_t (zok_t hst))
  exact lv_icmp_gt hF.1 hF.2.1 hd ht (fun q => kt' ((zlt hb ha).mp q)) (fun q => kf' (Int.not_lt.mp (fun z => q ((zlt hb ha).mpr z))))
theorem r_if_gt {a : Int} {off : Int} {tgt : Nat} (hd : decode E.1.2.1 pc = .ok (.ifCond .gt off, 3)) (ht : (pc : Int) + off = (tgt : Int)) (kt : 0 < a → zW B E tgt ls st ini M ce sl) (kf : a ≤ 0 → zW B E (pc + 3) ls st ini M ce sl) : zW B E pc ls (zI a :: st) ini M ce sl := by
  intro p e s m args below meth c H locs lsr hF hE hK hR hS hbs hn hl hlo hst
  have ha : zin a := zok_h hst
  have hb : zin 0 := by decide
  have kt' := fun q => kt q p e s m args below meth c H locs lsr hF hE hK hR hS hbs hn hl hlo (zok_t hst)
  have kf' := fun q => kf q p e s m args below meth c H locs lsr hF hE hK hR hS hbs hn hl hlo (zok_t hst)
  exact lv_if_gt hF.1 hF.2.1 hd ht (fun q => kt' ((zlt hb ha).mp q)) (fun q => kf' (Int.not_lt.mp (fun z => q ((zlt hb ha).mpr z))))
theorem r_icmp_le {a b : Int} {off : Int} {tgt : Nat} (hd : decode E.1.2.1 pc = .ok (.if_icmp .le off, 3)) (ht : (pc : Int) + off = (tgt : Int)) (kt : a ≤ b → zW B E tgt ls st ini M ce sl) (kf : b < a → zW B E (pc + 3) ls st ini M ce sl) : zW B E pc ls (zI b :: zI a :: st) ini M ce sl := by
  intro p e s m args below meth c H locs lsr hF hE hK hR hS hbs hn hl hlo hst
  have ha : zin a := zok_h (zok_t hst)
  have hb : zin b := zok_h hst
  have kt' := fun q => kt q p e s m args below meth c H locs lsr hF hE hK hR hS hbs hn hl hlo (zok_t (zok_t hst))
  have kf' := fun q => kf q p e s m args below meth c H locs lsr hF hE hK hR hS hbs hn hl hlo (zok_t (zok_t hst))
  exact lv_icmp_le hF.1 hF.2.1 hd ht (fun q => kt' ((zle ha hb).mp q)) (fun q => kf' (Int.not_le.mp (fun z => q ((zle ha hb).mpr z))))
theorem r_if_le {a : Int} {off : Int} {tgt : Nat} (hd : decode E.1.2.1 pc = .ok (.ifCond .le off, 3)) (ht : (pc : Int) + off = (tgt : Int)) (kt : a ≤ 0 → zW B E tgt ls st ini M ce sl) (kf : 0 < a → zW B E (pc + 3) ls st ini M ce sl) : zW B E pc ls (zI a :: st) ini M ce sl := by
  intro p e s m args below meth c H locs lsr hF hE hK hR hS hbs hn hl hlo hst
  have ha : zin a := zok_h hst
  have hb : zin 0 := by decide
  have kt' := fun q => kt q p e s m args below meth c H locs lsr hF hE hK hR hS hbs hn hl hlo (zok_t hst)
  have kf' := fun q => kf q p e s m args below meth c H locs lsr hF hE hK hR hS hbs hn hl hlo (zok_t hst)
  exact lv_if_le hF.1 hF.2.1 hd ht (fun q => kt' ((zle ha hb).mp q)) (fun q => kf' (Int.not_le.mp (fun z => q ((zle ha hb).mpr z))))
theorem r_ifnull {x : Option Nat} {off : Int} {tgt : Nat} (hd : decode E.1.2.1 pc = .ok (.ifnull off, 3)) (ht : (pc : Int) + off = (tgt : Int)) (kt : x = none → zW B E tgt ls st ini M ce sl) (kf : ∀ k, x = some k → zW B E (pc + 3) ls st ini M ce sl) : zW B E pc ls (zO x :: st) ini M ce sl := by
  intro p e s m args below meth c H locs lsr hF hE hK hR hS hbs hn hl hlo hst
  cases x with
  | none => exact lv_ifnullN hF.1 hF.2.1 hd ht (kt rfl p e s m args below meth c H locs lsr hF hE hK hR hS hbs hn hl hlo (zok_t hst))
  | some a => exact lv_ifnull hF.1 hF.2.1 hd (kf a rfl p e s m args below meth c H locs lsr hF hE hK hR hS hbs hn hl hlo (zok_t hst))
theorem r_ifnonnull {x : Option Nat} {off : Int} {tgt : Nat} (hd : decode E.1.2.1 pc = .ok (.ifnonnull off, 3)) (ht : (pc : Int) + off = (tgt : Int)) (kt : ∀ k, x = some k → zW B E tgt ls st ini M ce sl) (kf : x = none → zW B E (pc + 3) ls st ini M ce sl) : zW B E pc ls (zO x :: st) ini M ce sl := by
  intro p e s m args below meth c H locs lsr hF hE hK hR hS hbs hn hl hlo hst
  cases x with
  | none => exact lv_ifnonnullN hF.1 hF.2.1 hd (kf rfl p e s m args below meth c H locs lsr hF hE hK hR hS hbs hn hl hlo (zok_t hst))
  | some a => exact lv_ifnonnull hF.1 hF.2.1 hd ht (kt a rfl p e s m args below meth c H locs lsr hF hE hK hR hS hbs hn hl hlo (zok_t hst))
/-- a switch: one row a case (j: the case's place), and the rest -/
theorem r_table {dflt lo hi : Int} {offs : Array Int} {len : Nat} {x : Int} {tgt : Nat} (hd : decode E.1.2.1 pc = .ok (.tableswitch dflt lo hi offs, len)) (ht : (pc : Int) + dflt = (tgt : Int))
    (kd : (x < lo ∨ hi < x) → zW B E tgt ls st ini M ce sl) (kc : ∀ j : Nat, lo + j ≤ hi → x = lo + j → ∃ (off : Int) (tg : Nat), offs[j]? = some off ∧ (pc : Int) + off = (tg : Int) ∧ zW B E tg ls st ini M ce sl) : zW B E pc ls (zI x :: st) ini M ce sl := by
  intro p e s m args below meth c H locs lsr hF hE hK hR hS hbs hn hl hlo hst
  have hx : zin x := zok_h hst
  by_cases h : x < lo ∨ hi < x
  · exact lv_tableOut hF.1 hF.2.1 hd (by rw [zin_toInt hx]; exact h) ht (kd h p e s m args below meth c H locs lsr hF hE hK hR hS hbs hn hl hlo (zok_t hst))
  · obtain ⟨off, tg, h1, h2, h3⟩ := kc (x - lo).toNat (by omega) (by omega)
    exact lv_tableIn hF.1 hF.2.1 hd (by rw [zin_toInt hx]; omega) (by rw [zin_toInt hx]; omega) (by rw [zin_toInt hx]; exact h1) h2 (h3 p e s m args below meth c H locs lsr hF hE hK hR hS hbs hn hl hlo (zok_t hst))
end ZR
