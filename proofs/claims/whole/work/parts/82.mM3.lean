/-! ===== the model's face: not, join, mark ===== -/
section NT3
variable {B : zB} {K : Int → zM → Prop} {Kv : zM → Prop} {M : zM} {ty wr : List Int} {sk : List (List st3 × Int)} {w u : List st3} {G : Option GC} {j : JS} {on rd : Int}
theorem m_X9_copyStep {a b : Nat} (ha : a < 512) (hb : b < 512) (k : Kv (si (si (si M 50 b (gi M 50 a)) 51 b (gi M 51 a)) 52 b (gi M 52 a))) : zCv B zy_X9_copyStep 1 0 0 [zR 45, zI (a : Int), zI (b : Int)] M Kv := by
  refine e_X9_copyStep (fun n0 => ?_)
  apply b_X9_copyStep_0
  case k1 => exact k
  all_goals omega
/-- L steps have been copied -/
def cpM (M M' : zM) (a b L : Nat) : Prop := zSm [50, 51, 52] M M' ∧ ∀ q, (gi M' 50 q = if b ≤ q ∧ q < b + L then gi M 50 (q - b + a) else gi M 50 q) ∧ (gi M' 51 q = if b ≤ q ∧ q < b + L then gi M 51 (q - b + a) else gi M 51 q) ∧ (gi M' 52 q = if b ≤ q ∧ q < b + L then gi M 52 (q - b + a) else gi M 52 q)
theorem cpM.zero {a b : Nat} : cpM M M a b 0 := ⟨zSm.rf, fun q => by rw [if_neg (by omega), if_neg (by omega), if_neg (by omega)]; exact ⟨rfl, rfl, rfl⟩⟩
theorem cpM.succ {M' : zM} {a b L : Nat} (h : cpM M M' a b L) (hd : a + L < b ∨ b + L ≤ a) : cpM M (si (si (si M' 50 (b + L) (gi M' 50 (a + L))) 51 (b + L) (gi M' 51 (a + L))) 52 (b + L) (gi M' 52 (a + L))) a b (L + 1) := by
  obtain ⟨f, h⟩ := h
  refine ⟨((f.st (by decide)).st (by decide)).st (by decide), fun q => ?_⟩
  obtain ⟨a1, a2, a3⟩ := h (a + L)
  rw [if_neg (by omega)] at a1 a2 a3
  obtain ⟨b1, b2, b3⟩ := h q
  have c1 : gi (si (si (si M' 50 (b + L) (gi M' 50 (a + L))) 51 (b + L) (gi M' 51 (a + L))) 52 (b + L) (gi M' 52 (a + L))) 50 q = if q = b + L then gi M' 50 (a + L) else gi M' 50 q := by simp [gi_si]
  have c2 : gi (si (si (si M' 50 (b + L) (gi M' 50 (a + L))) 51 (b + L) (gi M' 51 (a + L))) 52 (b + L) (gi M' 52 (a + L))) 51 q = if q = b + L then gi M' 51 (a + L) else gi M' 51 q := by simp [gi_si]
  have c3 : gi (si (si (si M' 50 (b + L) (gi M' 50 (a + L))) 51 (b + L) (gi M' 51 (a + L))) 52 (b + L) (gi M' 52 (a + L))) 52 q = if q = b + L then gi M' 52 (a + L) else gi M' 52 q := by simp [gi_si]
  rw [c1, c2, c3, a1, a2, a3, b1, b2, b3]
  by_cases z : q = b + L
  · rw [if_pos z, if_pos z, if_pos z, if_pos (by omega), if_pos (by omega), if_pos (by omega), (by omega : q - b + a = a + L)]
    exact ⟨rfl, rfl, rfl⟩
  · rw [if_neg z, if_neg z, if_neg z]
    by_cases z2 : b ≤ q ∧ q < b + L
    · rw [if_pos z2, if_pos z2, if_pos z2, if_pos (by omega), if_pos (by omega), if_pos (by omega)]
      exact ⟨rfl, rfl, rfl⟩
    · rw [if_neg z2, if_neg z2, if_neg z2, if_neg (by omega), if_neg (by omega), if_neg (by omega)]
      exact ⟨rfl, rfl, rfl⟩
theorem take_last {α : Type} {s : List α} {n : Nat} {t : α} (hl : s.length = n + 1) (ht : s[n]? = some t) : s = s.take n ++ [t] := by
  have h1 : n < s.length := by omega
  have h2 : s[n] = t := by
    rw [List.getElem?_eq_getElem h1] at ht
    exact Option.some.inj ht
  have := List.take_append_drop n s
  rw [List.drop_eq_getElem_cons h1, h2, List.drop_of_length_le (by omega)] at this
  exact this.symm
theorem m_X9_not (h : MS M ty wr sk w u G j on rd) (k0 : (∀ n t, sk.length = n + 1 → sk[n]? = some t → ¬ t.2 < 6) → K 0 M)
    (k1 : ∀ n t, sk.length = n + 1 → sk[n]? = some t → t.2 < 6 → ∀ M', FM M M' → MS M' ty wr (sk.take n ++ [(t.1 ++ [(5, 0, 0)], t.2 + 1)]) w u G j on rd → K 1 M') : zCi B zy_X9_not 1 0 0 [zR 45] M K := by
  obtain ⟨h1, h2, ⟨s1, s2, s3⟩, ⟨⟨h4, h4'⟩, h5, h5'⟩, h6, h7, h8, h9⟩ := id h
  have getn : ∀ n, sk.length = n + 1 → ∃ t, sk[n]? = some t := fun n hn => ⟨_, List.getElem?_eq_getElem (by omega)⟩
  refine e_X9_not (fun n0 => ?_)
  apply b_X9_not_0
  case k1 => intro q; exact k0 (fun n t hn _ => by omega)
  case k3 =>
    intro q q2
    refine k0 (fun n t hn ht hlt => ?_)
    have e : (gi M 45 4 - 1).toNat = n := by omega
    rw [e, (s3 n t ht).2.1] at q2
    omega
  case k2 =>
    intro q q2
    obtain ⟨n, hn⟩ : ∃ n, sk.length = n + 1 := ⟨sk.length - 1, by omega⟩
    obtain ⟨t, ht⟩ := getn n hn
    have e : (gi M 45 4 - 1).toNat = n := by omega
    obtain ⟨r1, r2, r3⟩ := s3 n t ht
    have hlen := r3.len
    rw [e, r2] at q2
    have hlt : t.2 < 6 := by have := r3.2.1; omega
    have e2 : (64 * (gi M 45 4 - 1) + gi M 48 n).toNat = 64 * n + t.1.length := by rw [r1.1]; omega
    rw [e, e2, r1.1, r2]
    generalize hM : si (si (si M 50 (64 * n + t.1.length) 5) 48 n ((t.1.length : Int) + 1)) 49 n (t.2 + 1) = M'
    have f : zSm [48, 49, 50] M M' := by
      rw [← hM]
      exact ((zSm.rf.st (by decide)).st (by decide)).st (by decide)
    have c48 : ∀ q, gi M' 48 q = if q = n then (t.1.length : Int) + 1 else gi M 48 q := fun q => by rw [← hM]; simp [gi_si]
    have c49 : ∀ q, gi M' 49 q = if q = n then t.2 + 1 else gi M 49 q := fun q => by rw [← hM]; simp [gi_si]
    have c50 : ∀ q, gi M' 50 q = if q = 64 * n + t.1.length then 5 else gi M 50 q := fun q => by rw [← hM]; simp [gi_si]
    have c51 : gi M' 51 = gi M 51 := f.ge (by decide)
    have c52 : gi M' 52 = gi M 52 := f.ge (by decide)
    have c45 : gi M' 45 = gi M 45 := f.ge (by decide)
    have keep : ∀ {i P}, rowM M i P → i ≠ n → P.length ≤ 63 → rowM M' i P := fun {i P} r hi hP => r.keep (by rw [c48, if_neg hi]) (fun k hk => by rw [c50, c51, c52, if_neg (by omega)]; exact ⟨rfl, rfl, rfl⟩)
    have hln : (sk.take n).length = n := by rw [List.length_take]; omega
    refine k1 n t hn ht hlt M' (f.fm (by decide)) (h.upS f (by decide) (fun q hq _ => by rw [c45]) ⟨?_, ?_, ?_⟩ ⟨keep h4 (by omega) h4'.len, h4'⟩ ⟨keep h5 (by omega) h5'.len, h5'⟩ (h6.same (fun q hq => by rw [c45]) (f.ge (by decide)) (f.ge (by decide))) h9.2)
    · rw [c45, s1, List.length_append, hln, hn]; rfl
    · rw [List.length_append, hln, List.length_singleton]; omega
    · intro i v hi
      by_cases z : i = n
      · have : v = (t.1 ++ [(5, 0, 0)], t.2 + 1) := by
          rw [List.getElem?_append_right (by omega), hln, z, Nat.sub_self] at hi
          exact (Option.some.inj hi).symm
        rw [this, z]
        refine ⟨⟨by rw [c48, if_pos rfl, List.length_append]; rfl, fun q p hp => ?_⟩, by rw [c49, if_pos rfl], r3.1.no, ⟨by have := r3.2.1; dsimp only; omega, by dsimp only; omega⟩, ?_⟩
        · rw [c50, c51, c52]
          by_cases zq : q = t.1.length
          · rw [zq, List.getElem?_append_right (Nat.le_refl _), Nat.sub_self] at hp
            have : p = (5, 0, 0) := (Option.some.inj hp).symm
            rw [this, zq, if_pos rfl]
            exact ⟨rfl, fun q => by have q2 : (5 : Int) < 5 := q; omega⟩
          · have hq : q < t.1.length := by
              have := (List.getElem?_eq_some_iff.mp hp).1
              rw [List.length_append, List.length_singleton] at this
              omega
            rw [List.getElem?_append_left hq] at hp
            rw [if_neg (by omega)]
            exact r1.2 q p hp
        · dsimp only
          rw [List.length_append, List.length_singleton, (by have := r3.2.1; omega : (t.2 + 1).toNat = t.2.toNat + 1), Nat.pow_succ]
          have := r3.2.2
          have := r3.1.pos
          omega
      · have hi' : i < n := by
          have := (List.getElem?_eq_some_iff.mp hi).1
          rw [List.length_append, List.length_singleton, hln] at this
          omega
        rw [List.getElem?_append_left (by omega), List.getElem?_take, if_pos hi'] at hi
        obtain ⟨r1, r2, r3⟩ := s3 i v hi
        exact ⟨keep r1 z r3.len, by rw [c49, if_neg z]; exact r2, r3⟩
  case c5 =>
    intro q q2
    obtain ⟨n, hn⟩ : ∃ n, sk.length = n + 1 := ⟨sk.length - 1, by omega⟩
    obtain ⟨t, ht⟩ := getn n hn
    obtain ⟨r1, r2, r3⟩ := s3 n t ht
    have := r3.len
    rw [(by omega : (gi M 45 4 - 1).toNat = n), r1.1]
    omega
  case c4 =>
    intro q q2
    obtain ⟨n, hn⟩ : ∃ n, sk.length = n + 1 := ⟨sk.length - 1, by omega⟩
    obtain ⟨t, ht⟩ := getn n hn
    obtain ⟨r1, r2, r3⟩ := s3 n t ht
    have := r3.len
    rw [(by omega : (gi M 45 4 - 1).toNat = n), r1.1]
    omega
  case c6 =>
    intro q q2
    obtain ⟨n, hn⟩ : ∃ n, sk.length = n + 1 := ⟨sk.length - 1, by omega⟩
    obtain ⟨t, ht⟩ := getn n hn
    obtain ⟨r1, r2, r3⟩ := s3 n t ht
    have := r3.len
    rw [(by omega : (gi M 45 4 - 1).toNat = n), r1.1]
    omega
  case c7 =>
    intro q q2
    obtain ⟨n, hn⟩ : ∃ n, sk.length = n + 1 := ⟨sk.length - 1, by omega⟩
    obtain ⟨t, ht⟩ := getn n hn
    obtain ⟨r1, r2, r3⟩ := s3 n t ht
    have := r3.2.1
    rw [(by omega : (gi M 45 4 - 1).toNat = n), r2]
    omega
  all_goals (intros; omega)
theorem m_X9_join {p1 : Int} (h : MS M ty wr sk w u G j on rd) (k0 : (∀ n x y, sk.length = n + 2 → sk[n]? = some x → sk[n + 1]? = some y → ¬ 1 + max x.2 y.2 ≤ 6) → K 0 M)
    (k1 : ∀ n x y, sk.length = n + 2 → sk[n]? = some x → sk[n + 1]? = some y → 1 + max x.2 y.2 ≤ 6 → ∀ M', FM M M' → MS M' ty wr (sk.take n ++ [(x.1 ++ y.1 ++ [(if p1 = 0 then 6 else 7, 0, 0)], 1 + max x.2 y.2)]) w u G j on rd → K 1 M') : zCi B zy_X9_join 2 0 0 [zR 45, zI p1] M K := by
  obtain ⟨h1, h2, ⟨s1, s2, s3⟩, ⟨⟨h4, h4'⟩, h5, h5'⟩, h6, h7, h8, h9⟩ := id h
  refine e_X9_join (fun n0 => ?_)
  by_cases hlen : sk.length < 2
  · apply b_X9_join_0
    case k3 => intro _; exact k0 (fun n x y hn _ _ => by omega)
    all_goals (intros; omega)
  obtain ⟨n, hn⟩ : ∃ n, sk.length = n + 2 := ⟨sk.length - 2, by omega⟩
  obtain ⟨x, hx⟩ : ∃ t, sk[n]? = some t := ⟨_, List.getElem?_eq_getElem (by omega)⟩
  obtain ⟨y, hy⟩ : ∃ t, sk[n + 1]? = some t := ⟨_, List.getElem?_eq_getElem (by omega)⟩
  obtain ⟨x1, x2, x3⟩ := s3 n x hx
  obtain ⟨y1, y2, y3⟩ := s3 (n + 1) y hy
  have e0 : (gi M 45 4 - 2).toNat = n := by omega
  have e1 : (gi M 45 4 - 1).toNat = n + 1 := by omega
  have emax : (if gi M 49 n ≤ gi M 49 (n + 1) then gi M 49 (n + 1) else gi M 49 n) = max x.2 y.2 := by rw [x2, y2]; split <;> omega
  apply b_X9_join_0
  case c5 =>
    intro _ y1_0 hy1
    rw [e0, e1, emax] at hy1
    have := x3.2.1
    have := y3.2.1
    omega
  case k2 =>
    intro _ y1_0 hy1 q
    rw [e0, e1, emax] at hy1
    refine k0 (fun n' x' y' a b c => ?_)
    have : n' = n := by omega
    subst this
    rw [hx] at b
    rw [hy] at c
    cases b
    cases c
    omega
  case k3 => intro q; omega
  case k1 =>
    intro _ dm hdm q
    rw [e0, e1, emax] at hdm
    subst hdm
    have ex : gi M 45 4 - 2 = (n : Int) := by omega
    have ey : gi M 45 4 - 1 = ((n + 1 : Nat) : Int) := by omega
    rw [ex, ey]
    have lx : x.1.length ≤ 31 := by
      have h2 := x3.2.2
      have : 2 ^ x.2.toNat ≤ 2 ^ 5 := Nat.pow_le_pow_right (by decide) (by have := x3.2.1; omega)
      omega
    have ly : y.1.length ≤ 31 := by
      have h2 := y3.2.2
      have : 2 ^ y.2.toNat ≤ 2 ^ 5 := Nat.pow_le_pow_right (by decide) (by have := y3.2.1; omega)
      omega
    have L : ∀ (d i n0 : Nat) (M1 : zM), i + d = y.1.length → cpM M M1 (64 * (n + 1)) (64 * n + x.1.length) i → zGi B zy_X9_join 2 0 0 n0 K 70 [some (zR 45), some (zI p1), some (zI (n : Int)), some (zI ((n + 1 : Nat) : Int)), some (zI (1 + max x.2 y.2)), some (zI (i : Int))] [] M1 0 0 := by
      intro d
      induction d with
      | zero =>
        intro i n0 M1 hi hc
        have en : ((n : Int)).toNat = n := rfl
        have en1 : (((n + 1 : Nat) : Int)).toNat = n + 1 := rfl
        have g48 : gi M1 48 = gi M 48 := hc.1.ge (by decide)
        have g45 : gi M1 45 = gi M 45 := hc.1.ge (by decide)
        have gx : gi M1 48 n = (x.1.length : Int) := by rw [g48]; exact x1.1
        have gy : gi M1 48 (n + 1) = (y.1.length : Int) := by rw [g48]; exact y1.1
        apply b_X9_join_70
        case k1 =>
          intro _
          rw [en, en1, gx, gy, (by omega : (64 * (n : Int) + ((x.1.length : Int) + (y.1.length : Int))).toNat = 64 * n + x.1.length + y.1.length), g45, (by omega : gi M 45 4 - 1 = (n : Int) + 1)]
          generalize hM : si (si (si (si (si M1 48 n ((x.1.length : Int) + (y.1.length : Int))) 50 (64 * n + x.1.length + y.1.length) (if p1 = 0 then 6 else 7)) 48 n ((x.1.length : Int) + (y.1.length : Int) + 1)) 49 n (1 + max x.2 y.2)) 45 4 ((n : Int) + 1) = M'
          have f : zSm [45, 48, 49, 50, 51, 52] M M' := by
            rw [← hM]
            exact (((((hc.1.mono (by decide)).st (by decide)).st (by decide)).st (by decide)).st (by decide)).st (by decide)
          have c48 : ∀ q, gi M' 48 q = if q = n then (x.1.length : Int) + (y.1.length : Int) + 1 else gi M 48 q := fun q => by
            rw [← hM, ← g48]
            by_cases z : q = n <;> simp [gi_si, z]
          have c49 : ∀ q, gi M' 49 q = if q = n then 1 + max x.2 y.2 else gi M 49 q := fun q => by
            rw [← hM, ← hc.1.ge (a := 49) (by decide)]
            simp [gi_si]
          have c50 : ∀ q, gi M' 50 q = if q = 64 * n + x.1.length + y.1.length then (if p1 = 0 then 6 else 7) else gi M1 50 q := fun q => by rw [← hM]; simp [gi_si]
          have c51 : gi M' 51 = gi M1 51 := by rw [← hM]; rfl
          have c52 : gi M' 52 = gi M1 52 := by rw [← hM]; rfl
          have c45 : ∀ q, q ≠ 4 → gi M' 45 q = gi M 45 q := fun q hq => by rw [← hM, ← g45]; simp [gi_si, hq]
          have c454 : gi M' 45 4 = (n : Int) + 1 := by rw [← hM]; simp [gi_si]
          have out : ∀ q, (q < 64 * n + x.1.length ∨ 64 * (n + 1) ≤ q) → gi M' 50 q = gi M 50 q ∧ gi M' 51 q = gi M 51 q ∧ gi M' 52 q = gi M 52 q := fun q hq => by
            obtain ⟨a1, a2, a3⟩ := hc.2 q
            rw [c50, c51, c52, if_neg (by omega), a1, a2, a3, if_neg (by omega), if_neg (by omega), if_neg (by omega)]
            exact ⟨rfl, rfl, rfl⟩
          have keep : ∀ {i P}, rowM M i P → i ≠ n → P.length ≤ 63 → rowM M' i P := fun {i P} r hi hP => r.keep (by rw [c48, if_neg hi]) (fun k hk => out _ (by omega))
          have hln : (sk.take n).length = n := by rw [List.length_take]; omega
          refine k1 n x y hn hx hy q M' (f.fm (by decide)) (h.upS f (by decide) (fun q hq _ => c45 q hq) ⟨?_, ?_, ?_⟩ ⟨keep h4 (by omega) h4'.len, h4'⟩ ⟨keep h5 (by omega) h5'.len, h5'⟩ (h6.same (fun q hq => c45 q (by omega)) (f.ge (by decide)) (f.ge (by decide))) h9.2)
          · rw [c454, List.length_append, hln]; rfl
          · rw [List.length_append, hln, List.length_singleton]; omega
          · intro i' v hv
            by_cases z : i' = n
            · have : v = (x.1 ++ y.1 ++ [(if p1 = 0 then 6 else 7, 0, 0)], 1 + max x.2 y.2) := by
                rw [List.getElem?_append_right (by omega), hln, z, Nat.sub_self] at hv
                exact (Option.some.inj hv).symm
              rw [this, z]
              refine ⟨⟨by rw [c48, if_pos rfl, List.length_append, List.length_append]; rfl, fun k p hp => ?_⟩, by rw [c49, if_pos rfl], x3.1.jn (by split <;> simp) y3.1, ⟨by have := x3.2.1; dsimp only; omega, q⟩, ?_⟩
              · dsimp only at hp
                by_cases zk : k = x.1.length + y.1.length
                · rw [zk, List.getElem?_append_right (by rw [List.length_append]; exact Nat.le_refl _), List.length_append, Nat.sub_self] at hp
                  have : p = (if p1 = 0 then 6 else 7, 0, 0) := (Option.some.inj hp).symm
                  rw [this, zk, c50, if_pos (by omega)]
                  refine ⟨rfl, fun q => ?_⟩
                  have q2 : (if p1 = 0 then (6 : Int) else 7) < 5 := q
                  split at q2 <;> omega
                · have hk : k < x.1.length + y.1.length := by
                    have := (List.getElem?_eq_some_iff.mp hp).1
                    rw [List.length_append, List.length_append, List.length_singleton] at this
                    omega
                  rw [List.getElem?_append_left (by rw [List.length_append]; exact hk)] at hp
                  by_cases zx : k < x.1.length
                  · rw [List.getElem?_append_left zx] at hp
                    obtain ⟨o1, o2, o3⟩ := out (64 * n + k) (by omega)
                    rw [o1, o2, o3]
                    exact x1.2 k p hp
                  · rw [List.getElem?_append_right (by omega)] at hp
                    obtain ⟨a1, a2, a3⟩ := hc.2 (64 * n + k)
                    rw [c50, c51, c52, if_neg (by omega), a1, a2, a3, if_pos (by omega), if_pos (by omega), if_pos (by omega), (by omega : 64 * n + k - (64 * n + x.1.length) + 64 * (n + 1) = 64 * (n + 1) + (k - x.1.length))]
                    exact y1.2 _ p hp
              · dsimp only
                rw [List.length_append, List.length_append, List.length_singleton]
                have hx2 := x3.2.2
                have hy2 := y3.2.2
                have px : 2 ^ x.2.toNat ≤ 2 ^ (max x.2 y.2).toNat := Nat.pow_le_pow_right (by decide) (by omega)
                have py : 2 ^ y.2.toNat ≤ 2 ^ (max x.2 y.2).toNat := Nat.pow_le_pow_right (by decide) (by omega)
                rw [(by have := x3.2.1; omega : (1 + max x.2 y.2).toNat = (max x.2 y.2).toNat + 1), Nat.pow_succ]
                omega
            · have hi' : i' < n := by
                have := (List.getElem?_eq_some_iff.mp hv).1
                rw [List.length_append, List.length_singleton, hln] at this
                omega
              rw [List.getElem?_append_left (by omega), List.getElem?_take, if_pos hi'] at hv
              obtain ⟨r1, r2, r3⟩ := s3 i' v hv
              exact ⟨keep r1 z r3.len, by rw [c49, if_neg z]; exact r2, r3⟩
        case c8 => intro _; rw [g45]; omega
        all_goals (intros; rw [en, en1] at *; rw [gx, gy] at *; omega)
      | succ d ih =>
        intro i n0 M1 hi hc
        have en : ((n : Int)).toNat = n := rfl
        have en1 : (((n + 1 : Nat) : Int)).toNat = n + 1 := rfl
        have g48 : gi M1 48 = gi M 48 := hc.1.ge (by decide)
        have gx : gi M1 48 n = (x.1.length : Int) := by rw [g48]; exact x1.1
        have gy : gi M1 48 (n + 1) = (y.1.length : Int) := by rw [g48]; exact y1.1
        apply b_X9_join_70
        case k2 =>
          intro _
          rw [en, gx, (by omega : 64 * ((n + 1 : Nat) : Int) + (i : Int) = ((64 * (n + 1) + i : Nat) : Int)), (by omega : 64 * (n : Int) + (x.1.length : Int) + (i : Int) = ((64 * n + x.1.length + i : Nat) : Int))]
          refine m_X9_copyStep (by omega) (by omega) ?_
          apply b_X9_join_106
          case k1 => exact ih (i + 1) n0 _ (by omega) (hc.succ (by omega))
          case c1 => omega
        case k1 => intro q; rw [en1, gy] at q; omega
        all_goals (intros; rw [en, en1] at *; rw [gx, gy] at *; omega)
    exact L y.1.length 0 n0 M (by omega) cpM.zero
  all_goals (intros; omega)
theorem m_X9_mark {p1 : Int} (h : MS M ty wr sk w u G j on rd) (k0 : sk = [] → K 0 M)
    (k1 : ∀ n t, sk.length = n + 1 → sk[n]? = some t → ∀ M', FM M M' → MS M' ty wr (sk.take n) (if p1 = 0 then t.1 else w) (if p1 = 0 then u else t.1) G ([], j.2) on rd → K 1 M') : zCi B zy_X9_mark 2 0 0 [zR 45, zI p1] M K := by
  obtain ⟨h1, h2, ⟨s1, s2, s3⟩, ⟨⟨h4, h4'⟩, h5, h5'⟩, ⟨g1, g2⟩, h7, h8, h9⟩ := id h
  refine e_X9_mark (fun n0 => ?_)
  by_cases hlen : sk.length = 0
  · apply b_X9_mark_0
    case k2 => intro _; exact k0 (List.eq_nil_of_length_eq_zero hlen)
    all_goals (intros; omega)
  obtain ⟨n, hn⟩ : ∃ n, sk.length = n + 1 := ⟨sk.length - 1, by omega⟩
  obtain ⟨t, ht⟩ : ∃ t, sk[n]? = some t := ⟨_, List.getElem?_eq_getElem (by omega)⟩
  obtain ⟨t1, t2, t3⟩ := s3 n t ht
  have tl := t3.len
  apply b_X9_mark_0
  case k1 =>
    intro _
    obtain ⟨to, hto, hto2⟩ : ∃ to : Nat, (to : Int) = (if p1 = 0 then 6 else 7) ∧ to = (if p1 = 0 then 6 else 7) := ⟨if p1 = 0 then 6 else 7, by split <;> rfl, rfl⟩
    have hto3 : to = 6 ∨ to = 7 := by split at hto2 <;> omega
    rw [← hto, (by omega : gi M 45 4 - 1 = (n : Int))]
    have f0 : zSm [45] M (si M 45 4 (n : Int)) := zSm.rf.st (by decide)
    have L : ∀ (d i n0 : Nat) (M1 : zM), i + d = t.1.length → cpM (si M 45 4 (n : Int)) M1 (64 * n) (64 * to) i → zGi B zy_X9_mark 2 0 0 n0 K 33 [some (zR 45), some (zI p1), some (zI (to : Int)), some (zI (i : Int))] [] M1 0 0 := by
      intro d
      induction d with
      | zero =>
        intro i n0 M1 hi hc
        have en : ((n : Int)).toNat = n := rfl
        have et : ((to : Int)).toNat = to := rfl
        have g454 : gi M1 45 4 = (n : Int) := by rw [hc.1.ge (by decide)]; simp [gi_si]
        have g48 : gi M1 48 = gi M 48 := by rw [hc.1.ge (by decide)]; exact gi_si_ne (by decide)
        have gt : gi M1 48 n = (t.1.length : Int) := by rw [g48]; exact t1.1
        apply b_X9_mark_33
        case k1 =>
          intro _
          rw [g454, en, et, gt]
          generalize hM : si (si M1 48 to (t.1.length : Int)) 45 40 0 = M'
          have f : zSm [45, 48, 50, 51, 52] M M' := by
            rw [← hM]
            exact (((f0.mono (by decide)).tr (hc.1.mono (by decide))).st (by decide)).st (by decide)
          have c48 : ∀ q, gi M' 48 q = if q = to then (t.1.length : Int) else gi M 48 q := fun q => by rw [← hM, ← g48]; simp [gi_si]
          have c45 : ∀ q, q ≠ 4 → q ≠ 40 → gi M' 45 q = gi M 45 q := fun q hq hq2 => by
            rw [← hM]
            have : gi M1 45 q = gi M 45 q := by rw [hc.1.ge (by decide)]; simp [gi_si, hq]
            simp [gi_si, hq2, this]
          have c454 : gi M' 45 4 = (n : Int) := by rw [← hM]; simp [gi_si, g454]
          have c4540 : gi M' 45 40 = 0 := by rw [← hM]; simp [gi_si]
          have cc : ∀ q, gi M' 50 q = (if 64 * to ≤ q ∧ q < 64 * to + i then gi M 50 (q - 64 * to + 64 * n) else gi M 50 q) ∧ gi M' 51 q = (if 64 * to ≤ q ∧ q < 64 * to + i then gi M 51 (q - 64 * to + 64 * n) else gi M 51 q) ∧ gi M' 52 q = (if 64 * to ≤ q ∧ q < 64 * to + i then gi M 52 (q - 64 * to + 64 * n) else gi M 52 q) := fun q => by
            rw [← hM]
            exact hc.2 q
          have keep : ∀ {i' P}, rowM M i' P → i' ≠ to → i' < 8 → P.length ≤ 63 → rowM M' i' P := fun {i' P} r hi' h8 hP => r.keep (by rw [c48, if_neg hi']) (fun k hk => by
            obtain ⟨a1, a2, a3⟩ := cc (64 * i' + k)
            rw [a1, a2, a3, if_neg (by omega), if_neg (by omega), if_neg (by omega)]
            exact ⟨rfl, rfl, rfl⟩)
          have new : rowM M' to t.1 := by
            refine ⟨by rw [c48, if_pos rfl], fun k p hp => ?_⟩
            have hk : k < t.1.length := (List.getElem?_eq_some_iff.mp hp).1
            obtain ⟨a1, a2, a3⟩ := cc (64 * to + k)
            rw [a1, a2, a3, if_pos (by omega), if_pos (by omega), if_pos (by omega), (by omega : 64 * to + k - 64 * to + 64 * n = 64 * n + k)]
            exact t1.2 k p hp
          have hln : (sk.take n).length = n := by rw [List.length_take]; omega
          refine k1 n t hn ht M' (f.fm (by decide)) (h.upS f (by decide) (fun q hq hq2 => c45 q hq hq2) ⟨by rw [c454, hln], by omega, fun i' v hv => ?_⟩ ?_ ?_ ⟨⟨c4540, Nat.zero_le _, fun i s hi => by cases hi⟩, (c45 46 (by decide) (by decide)).trans g2.1, (c45 43 (by decide) (by decide)).trans g2.2.1, (c45 44 (by decide) (by decide)).trans g2.2.2.1, (c45 47 (by decide) (by decide)).trans g2.2.2.2.1, (c45 39 (by decide) (by decide)).trans g2.2.2.2.2.1, g2.2.2.2.2.2⟩ h9.2)
          · have hi' : i' < n := by
              have := (List.getElem?_eq_some_iff.mp hv).1
              omega
            rw [List.getElem?_take, if_pos hi'] at hv
            obtain ⟨r1, r2, r3⟩ := s3 i' v hv
            exact ⟨keep r1 (by omega) (by omega) r3.len, by rw [f.ge (by decide)]; exact r2, r3⟩
          · by_cases z : p1 = 0
            · rw [if_pos z] at hto2 ⊢
              exact ⟨hto2 ▸ new, Or.inr ⟨t3.1, tl⟩⟩
            · rw [if_neg z] at hto2 ⊢
              exact ⟨keep h4 (by omega) (by omega) h4'.len, h4'⟩
          · by_cases z : p1 = 0
            · rw [if_pos z] at hto2 ⊢
              exact ⟨keep h5 (by omega) (by omega) h5'.len, h5'⟩
            · rw [if_neg z] at hto2 ⊢
              exact ⟨hto2 ▸ new, Or.inr ⟨t3.1, tl⟩⟩
        all_goals (intros; rw [g454] at *; rw [en] at *; rw [gt] at *; omega)
      | succ d ih =>
        intro i n0 M1 hi hc
        have en : ((n : Int)).toNat = n := rfl
        have g454 : gi M1 45 4 = (n : Int) := by rw [hc.1.ge (by decide)]; simp [gi_si]
        have g48 : gi M1 48 = gi M 48 := by rw [hc.1.ge (by decide)]; exact gi_si_ne (by decide)
        have gt : gi M1 48 n = (t.1.length : Int) := by rw [g48]; exact t1.1
        apply b_X9_mark_33
        case k2 =>
          intro _
          rw [g454, (by omega : 64 * (n : Int) + (i : Int) = ((64 * n + i : Nat) : Int)), (by omega : 64 * (to : Int) + (i : Int) = ((64 * to + i : Nat) : Int))]
          refine m_X9_copyStep (by omega) (by omega) ?_
          apply b_X9_mark_65
          case k1 => exact ih (i + 1) n0 _ (by omega) (hc.succ (by omega))
          case c1 => omega
        case k1 => intro q; rw [g454, en, gt] at q; omega
        all_goals (intros; rw [g454] at *; rw [en] at *; rw [gt] at *; omega)
    exact L t.1.length 0 n0 _ (by omega) cpM.zero
  all_goals (intros; omega)
end NT3
