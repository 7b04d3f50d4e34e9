/-! ===== an item as often as it goes: the model ===== -/
def agn (E : tE) (g : zG) (ch : Nat → Int) (k : Nat) : Nat → Int → Int
  | 0, l => l
  | f + 1, l => if 0 ≤ onc E g ch k l ∧ onc E g ch k l < l then agn E g ch k f (onc E g ch k l) else l
theorem m_X9_again {B : zB} {K : Int → zM → Prop} {M : zM} {g : zG} {s : List Int} {k : Nat} {l : Int} (hx : RM M g) (hw : WG g) (hs : mN M s) (ho : okS s) (hk : (k : Int) < gN g) (hl : 0 ≤ l ∧ l ≤ s.length) (hb : ∀ q : Nat, (q : Int) ≤ l → isNm (gI g k) = true → -1 ≤ gi M 63 (33 * (nm (gI g k)).toNat + (s.length - q)) ∧ gi M 63 (33 * (nm (gI g k)).toNat + (s.length - q)) ≤ s.length)
    (kk : K ((s.length : Int) - agn (eN M s.length) g (chS s) k 33 l) M) : zCi B zy_X9_again 3 0 0 [zR 45, zI (k : Int), zI ((s.length : Int) - l)] M K := by
  have h32 := ho.1
  have L : ∀ (f n0 : Nat) (p2 l' : Int), 0 ≤ l' → l' ≤ l → l' ≤ f → K ((s.length : Int) - agn (eN M s.length) g (chS s) k f l') M → zGi B zy_X9_again 3 0 0 n0 K 10 [some (zR 45), some (zI (k : Int)), some (zI p2), some (zI ((s.length : Int) - l')), some (zI (cvN s.length (onc (eN M s.length) g (chS s) k l')))] [] M 0 0 := by
    intro f
    induction f with
    | zero =>
      intro n0 p2 l' h0 h1 h2 hK
      apply b_X9_again_10
      case k1 => exact fun _ => hK
      case k2 =>
        intro q
        exfalso
        unfold cvN at q
        by_cases z : onc (eN M s.length) g (chS s) k l' < 0
        · rw [if_pos z] at q; omega
        · rw [if_neg z] at q; omega
    | succ f ih =>
      intro n0 p2 l' h0 h1 h2 hK
      unfold agn at hK
      apply b_X9_again_10
      case k1 =>
        intro q
        rw [if_neg] at hK
        · exact hK
        · rintro ⟨z1, z2⟩
          unfold cvN at q
          rw [if_neg (by omega)] at q
          omega
      case k2 =>
        intro q
        have hp : 0 ≤ onc (eN M s.length) g (chS s) k l' ∧ onc (eN M s.length) g (chS s) k l' < l' := by
          unfold cvN at q
          by_cases z : onc (eN M s.length) g (chS s) k l' < 0
          · rw [if_pos z] at q; omega
          · rw [if_neg z] at q; omega
        rw [if_pos hp] at hK
        have e : cvN s.length (onc (eN M s.length) g (chS s) k l') = (s.length : Int) - onc (eN M s.length) g (chS s) k l' := by
          unfold cvN
          rw [if_neg (by omega)]
        rw [e]
        refine p_X9_once hx hw hs ho hk ⟨hp.1, by omega⟩ (fun q => hb _ (by omega) q) ?_
        apply b_X9_again_25
        exact ih n0 _ _ hp.1 (by omega) (by omega) hK
  refine e_X9_again (fun n0 => ?_)
  apply b_X9_again_0
  refine p_X9_once hx hw hs ho hk hl (fun q => hb _ (by omega) q) ?_
  apply b_X9_again_8
  exact L 33 n0 _ l hl.1 (Int.le_refl _) (by omega) kk
