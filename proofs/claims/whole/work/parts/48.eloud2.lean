/-! the loudest rest: equal -/
theorem c_loudL {T : TDt} (hT : TW T) {pc bc pm bm : Int32} {prc wdc kdc lkc noc rpc prm wdm kdm lkm nom rpm : Nat → Int32} (hc : CT T pc bc prc wdc kdc lkc noc rpc) (hm : CT T pm bm prm wdm kdm lkm nom rpm) {a : AS} (hA : AW T a) {pl pd nx tk ht tm : Int32} {wi now : Nat → Int32} (hC : CM T a pl pd nx tk ht tm wi) (hM : MR T 0 a now) (h28 : 0 ≤ now 28) {n : Nat} (hn : n ≤ 12) (i0 : Int32 × Int32 × Int32 × Int32 × Int32 × Int32 × Int32 × Int32 × (Nat → Int32)) : ∀ k, k ≤ 7 →
    ((l_X4_loud_32 (nI n) pl pd nx tk ht tm wi pc bc noc kdc lkc rpc wdc i0 k).1, (l_X4_loud_32 (nI n) pl pd nx tk ht tm wi pc bc noc kdc lkc rpc wdc i0 k).2.1) = aLoud T a n (i0.1, i0.2.1) k := by
  intro k
  induction k with
  | zero => intro _; rfl
  | succ k ih =>
    intro hk
    obtain ⟨s1, s2⟩ := c_loudS hT hc hm hA hC hM h28 hn (k := k) (by omega) (l_X4_loud_32 (nI n) pl pd nx tk ht tm wi pc bc noc kdc lkc rpc wdc i0 k)
    rw [ih (by omega)] at s1 s2
    rw [l_X4_loud_32, aLoud, s1, s2]
theorem m_loudL {T : TDt} (hT : TW T) {pc bc pm bm : Int32} {prc wdc kdc lkc noc rpc prm wdm kdm lkm nom rpm : Nat → Int32} (hc : CT T pc bc prc wdc kdc lkc noc rpc) (hm : CT T pm bm prm wdm kdm lkm nom rpm) {a : AS} (hA : AW T a) {pl pd nx tk ht tm : Int32} {wi now : Nat → Int32} (hC : CM T a pl pd nx tk ht tm wi) (hM : MR T 0 a now) (h28 : 0 ≤ now 28) {n : Nat} (hn : n ≤ 12) (i0 : Int32 × Int32 × (Nat → Int32)) (hS : MS now i0.2.2) : ∀ k, k ≤ 7 →
    ((l_X5_loud_35 (nI n) pm bm nom kdm lkm rpm wdm i0 k).1, (l_X5_loud_35 (nI n) pm bm nom kdm lkm rpm wdm i0 k).2.1) = aLoud T a n (i0.1, i0.2.1) k ∧ MS now (l_X5_loud_35 (nI n) pm bm nom kdm lkm rpm wdm i0 k).2.2 := by
  intro k
  induction k with
  | zero => intro _; exact ⟨rfl, hS⟩
  | succ k ih =>
    intro hk
    obtain ⟨i1, i2⟩ := ih (by omega)
    obtain ⟨s1, s2, s3⟩ := m_loudS hT hc hm hA hC hM h28 hn (k := k) (by omega) (l_X5_loud_35 (nI n) pm bm nom kdm lkm rpm wdm i0 k) i2
    rw [i1] at s1 s2
    rw [l_X5_loud_35, aLoud, s1, s2]
    exact ⟨rfl, s3⟩
theorem nI_nneg {m : Nat} (h : m < 2 ^ 31) {x : Int32} (hx : x < 0) : ¬ nI m ≤ x := fun q => by
  rw [Int32.le_iff_toInt_le, nI_toInt h] at q
  rw [Int32.lt_iff_toInt_lt] at hx
  have : (0 : Int32).toInt = 0 := rfl
  omega
theorem aLoud_same {T : TDt} (hT : TW T) (a : AS) {n : Nat} (hn : n ≤ 12) : ∀ k, k ≤ 7 → aLoud T a n (6, -1) k = aLoud T a n (-9, -9) k ∨ (k ≤ 6 ∧ aLoud T a n (6, -1) k = (6, -1) ∧ aLoud T a n (-9, -9) k = (-9, -9)) := by
  intro k
  induction k with
  | zero => intro _; exact Or.inr ⟨by omega, rfl, rfl⟩
  | succ k ih =>
    intro hk
    rcases ih (by omega) with e | ⟨k6, e1, e2⟩
    · left; rw [aLoud, aLoud, e]
    · have hs := aSum_le hT (if k = 6 then a else aRest T a k) n
      rw [aLoud, aLoud, e1, e2]
      unfold aLoudS
      by_cases c : k = 6 ∨ aCanRest T a k = true
      · left
        rw [if_pos c, if_pos c, if_neg (nI_nneg (by omega) (by decide)), if_neg (nI_nneg (by omega) (by decide))]
      · right
        rw [if_neg c, if_neg c]
        exact ⟨by
          rcases Nat.lt_or_ge k 6 with w | w
          · omega
          · exact absurd (Or.inl (by omega)) c, rfl, rfl⟩
theorem e_loud {T : TDt} (hT : TW T) {pc bc pm bm : Int32} {prc wdc kdc lkc noc rpc prm wdm kdm lkm nom rpm : Nat → Int32} (hc : CT T pc bc prc wdc kdc lkc noc rpc) (hm : CT T pm bm prm wdm kdm lkm nom rpm) {a : AS} (hA : AW T a) {pl pd nx tk ht tm : Int32} {wi now : Nat → Int32} (hC : CM T a pl pd nx tk ht tm wi) (hM : MR T 0 a now) (h28 : 0 ≤ now 28) (x0 x1 : Int32) (w1 w2 w3 w4 w5 w6 : Int32) (ww : Nat → Int32) {rc : Int32 × Int32 × Int32 × Int32 × Int32 × Int32 × Int32 × (Nat → Int32)} {rm : Int32 × (Nat → Int32)}
    (ec : rc = f_X4_loud x0 x1 w1 w2 w3 w4 w5 w6 pl pd nx tk ht tm wi ww pc bc noc kdc lkc rpc wdc) (em : rm = f_X5_loud x0 x1 pm bm now nom kdm lkm rpm wdm) : rc.1 = rm.1 ∧ MS now rm.2 := by
  subst ec em
  dsimp only [f_X4_loud, f_X5_loud, lxb]
  rcases rng x0 1 12 (by decide) (by decide) with ⟨n, n1, n4, rfl⟩ | q
  · rw [show f_X5_in (Int32.toInt64 (nI n)) 1 12 = 1 from in_y n1 n4 (by decide), if_neg (show ¬ nI n < (1 : Int32) from nI_nlt (b := 1) n1 (by omega)), if_neg (show ¬ (12 : Int32) < nI n from nI_nlt (a := 12) (b := n) n4 (by decide)), if_neg (show ¬ (1 : Int32) = 0 by decide)]
    rcases rng x1 0 1 (by decide) (by decide) with ⟨j, _, j4, rfl⟩ | q
    · rw [show f_X5_in (Int32.toInt64 (nI j)) 0 1 = 1 from in_y (Nat.zero_le _) j4 (by decide), if_neg (nI_pos (show j < 2 ^ 31 by omega)), if_pos (show nI j ≤ (1 : Int32) from nI_le (b := 1) j4 (by decide)), if_neg (show ¬ (1 : Int32) = 0 by decide)]
      rw [show itn1 0 6 = 7 by decide +kernel]
      have g1 := c_loudL hT hc hm hA hC hM h28 n4 (6, -1, w1, w2, w3, w4, w5, w6, ww) 7 (Nat.le_refl _)
      obtain ⟨g2, g3⟩ := m_loudL hT hc hm hA hC hM h28 n4 (-9, -9, now) (MS.refl h28) 7 (Nat.le_refl _)
      have e : aLoud T a n (6, -1) 7 = aLoud T a n (-9, -9) 7 := by
        rcases aLoud_same hT a n4 7 (Nat.le_refl _) with e | e
        · exact e
        · exact absurd e.1 (by decide)
      generalize l_X4_loud_32 (nI n) pl pd nx tk ht tm wi pc bc noc kdc lkc rpc wdc (6, -1, w1, w2, w3, w4, w5, w6, ww) 7 = p at g1 ⊢
      generalize l_X5_loud_35 (nI n) pm bm nom kdm lkm rpm wdm (-9, -9, now) 7 = q at g2 g3 ⊢
      have e2 : (p.1, p.2.1) = (q.1, q.2.1) := by
        rw [g1, g2]; exact e
      have e3 : p.1 = q.1 := congrArg Prod.fst e2
      have e4 : p.2.1 = q.2.1 := congrArg Prod.snd e2
      by_cases c : nI j = 0
      · rw [if_pos c, if_pos c]; exact ⟨e3, g3⟩
      · rw [if_neg c, if_neg c]; exact ⟨e4, g3⟩
    · rw [show f_X5_in (Int32.toInt64 x1) 0 1 = 0 from in_n q (by decide) (by decide), if_pos (show (0 : Int32) = 0 from rfl)]
      refine ⟨?_, MS.refl h28⟩
      by_cases c : x1 < 0
      · rw [if_pos c]
      · have : ¬ x1 ≤ 1 := by
          rcases q with q | q
          · exact absurd q c
          · exact Int32.not_le.mpr q
        rw [if_neg c, if_neg this]
  · rw [show f_X5_in (Int32.toInt64 x0) 1 12 = 0 from in_n q (by decide) (by decide), if_pos (show (0 : Int32) = 0 from rfl)]
    refine ⟨?_, MS.refl h28⟩
    by_cases c : x0 < 1
    · rw [if_pos c]
    · have : (12 : Int32) < x0 := by
        rcases q with q | q
        · exact absurd q c
        · exact q
      rw [if_neg c, if_pos this]
