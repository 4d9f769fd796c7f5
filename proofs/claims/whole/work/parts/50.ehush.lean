/-! the cheapest hush: equal -/
theorem c_cheapL {T : TDt} (hT : TW T) {pc bc pm bm : Int32} {prc wdc kdc lkc noc rpc prm wdm kdm lkm nom rpm : Nat → Int32} (hc : CT T pc bc prc wdc kdc lkc noc rpc) (hm : CT T pm bm prm wdm kdm lkm nom rpm) {a : AS} (hA : AW T a) {pl pd nx tk ht tm : Int32} {wi now : Nat → Int32} (hC : CM T a pl pd nx tk ht tm wi) (hM : MR T 0 a now) (h28 : 0 ≤ now 28) {n : Nat} (hn : n < 2 ^ 31) (i0 : Int32 × Int32 × Int32 × Int32 × Int32 × Int32 × Int32 × (Nat → Int32)) (h0 : i0.1 = nI (aWho a.1 0 (tnp T))) : ∀ k, k ≤ 64 →
    (l_X4_cheapestHush_10 (nI n) pl pd nx tk ht tm pc bc prc wi noc kdc lkc rpc i0 k).1 = nI (aBest T a n k) := by
  intro k
  induction k with
  | zero => intro _; exact h0
  | succ k ih =>
    intro hk
    have ih := ih (by omega)
    have hb := aBest_lt hT a n k (by omega)
    rw [l_X4_cheapestHush_10, aBest]
    generalize l_X4_cheapestHush_10 (nI n) pl pd nx tk ht tm pc bc prc wi noc kdc lkc rpc i0 k = p at ih ⊢
    dsimp only [b_X4_cheapestHush_10, lxb]
    rw [c_sub hT hC.1.1 (show k < 64 by omega), ih, c_cheaper hT hc.1 (fun p hp => (hc.2.2.1 p hp).1) (show k < 64 by omega) hb]
    by_cases c1 : aSub T a k = true
    · rw [if_pos c1, if_neg (show ¬ (1 : Int32) = 0 by decide)]
      by_cases c2 : aCheaper T k (aBest T a n k) = true
      · rw [if_pos c2, if_neg (show ¬ (1 : Int32) = 0 by decide), c_behind hT hc hm hA hC hM h28 hn (show k < 64 by omega) c1]
        by_cases c3 : aHush T a n k = true
        · rw [if_pos c3, if_neg (show ¬ (1 : Int32) = 0 by decide), if_pos ⟨c1, c2, c3⟩]
        · rw [if_neg c3, if_pos (show (0 : Int32) = 0 from rfl), if_neg (fun q => c3 q.2.2)]
      · rw [if_neg c2, if_pos (show (0 : Int32) = 0 from rfl), if_neg (fun q => c2 q.2.1)]
    · rw [if_neg c1, if_pos (show (0 : Int32) = 0 from rfl), if_neg (fun q => c1 q.1)]
theorem c_cheap {T : TDt} (hT : TW T) {pc bc pm bm : Int32} {prc wdc kdc lkc noc rpc prm wdm kdm lkm nom rpm : Nat → Int32} (hc : CT T pc bc prc wdc kdc lkc noc rpc) (hm : CT T pm bm prm wdm kdm lkm nom rpm) {a : AS} (hA : AW T a) {pl pd nx tk ht tm : Int32} {wi now : Nat → Int32} (hC : CM T a pl pd nx tk ht tm wi) (hM : MR T 0 a now) (h28 : 0 ≤ now 28) {n : Nat} (hn : n < 2 ^ 31) (w1 w2 w3 w4 w5 w6 : Int32) (ww : Nat → Int32) : (f_X4_cheapestHush (nI n) pl pd nx tk ht tm pc bc prc w1 w2 w3 w4 w5 w6 wi ww noc kdc lkc rpc).1 = nI (aBest T a n 64) := by
  dsimp only [f_X4_cheapestHush, lxb]
  exact c_cheapL hT hc hm hA hC hM h28 hn _ (hC.1.1.who hT.1) 64 (Nat.le_refl _)
theorem tb_cmp : ∀ a, a < 55 → ∀ b, b < 55 → (0 < nI b - nI a ↔ a < b) ∧ (nI b - nI a = 0 ↔ a = b) := by decide +kernel
theorem m_cheaper {T : TDt} (hT : TW T) {players : Int32} {pr : Nat → Int32} (e : players = nI (tnp T)) (hp : ∀ p, p < tnp T → pr p = nI (tpr T p)) {k b : Nat} (hk : k < 64) (hb : b < 64) :
    (if 0 < (f_X5_priceOf (nI b) players pr - f_X5_priceOf (nI k) players pr) then (1 : Int32)
     else if (f_X5_priceOf (nI b) players pr - f_X5_priceOf (nI k) players pr) = 0 then (lxb (f_X5_ones (nI k)) (fun r5 => lxb (f_X5_ones (nI b)) (fun r6 => if r5 < r6 then 1 else lxb (f_X5_ones (nI k)) (fun r7 => lxb (f_X5_ones (nI b)) (fun r8 => if r7 = r8 then (if nI b ≤ nI k then 0 else 1) else 0))))) else 0) = if aCheaper T k b = true then 1 else 0 := by
  dsimp only [lxb]
  have h6 := hT.1
  have p1 := aPrice_le hT k (tnp T) (Nat.le_refl _)
  have p2 := aPrice_le hT b (tnp T) (Nat.le_refl _)
  have q1 := bcnt_le k
  have q2 := bcnt_le b
  rw [m_price hT e hp hk, m_price hT e hp hb, tb_ones k hk, tb_ones b hb]
  obtain ⟨t1, t2⟩ := tb_cmp (aPrice T k (tnp T)) (by omega) (aPrice T b (tnp T)) (by omega)
  unfold aCheaper
  by_cases c1 : aPrice T k (tnp T) < aPrice T b (tnp T)
  · rw [if_pos (t1.mpr c1)]; simp [c1]
  · rw [if_neg (fun q => c1 (t1.mp q))]
    by_cases c2 : aPrice T k (tnp T) = aPrice T b (tnp T)
    · rw [if_pos (t2.mpr c2)]
      by_cases c3 : bcnt k < bcnt b
      · rw [if_pos (nI_lt c3 (by omega))]; simp [c2, c3]
      · rw [if_neg (nI_nlt (by omega) (by omega))]
        by_cases c4 : bcnt k = bcnt b
        · rw [if_pos (by rw [c4])]
          by_cases c5 : k < b
          · rw [if_neg (nI_ge c5 (by omega))]; simp [c2, c4, c5]
          · rw [if_pos (nI_le (by omega) (by omega))]; simp [c2, c4, c5]
        · rw [if_neg (fun q => c4 ((nI_eq (show bcnt k < 2 ^ 31 by omega) (show bcnt b < 2 ^ 31 by omega)).mp q))]; simp [c2, c3, c4]
    · rw [if_neg (fun q => c2 (t2.mp q))]; simp [c1, c2]
theorem m_cheapL {T : TDt} (hT : TW T) {pc bc pm bm : Int32} {prc wdc kdc lkc noc rpc prm wdm kdm lkm nom rpm : Nat → Int32} (hc : CT T pc bc prc wdc kdc lkc noc rpc) (hm : CT T pm bm prm wdm kdm lkm nom rpm) {a : AS} (hA : AW T a) {pl pd nx tk ht tm : Int32} {wi now : Nat → Int32} (hC : CM T a pl pd nx tk ht tm wi) (hM : MR T 0 a now) (h28 : 0 ≤ now 28) {n : Nat} (hn : n < 2 ^ 31) (i0 : Int32 × (Nat → Int32)) (h0 : i0.1 = nI (aWho a.1 0 (tnp T))) (hS : MS now i0.2) {r1 : Int32} (e1 : r1 = nI (aWho a.1 0 (tnp T))) : ∀ k, k ≤ 64 →
    (l_X5_cheapest_12 (nI n) pm bm prm nom kdm lkm rpm r1 i0 k).1 = nI (aBest T a n k) ∧ MS now (l_X5_cheapest_12 (nI n) pm bm prm nom kdm lkm rpm r1 i0 k).2 := by
  intro k
  induction k with
  | zero => intro _; exact ⟨h0, hS⟩
  | succ k ih =>
    intro hk
    obtain ⟨ih, ih2⟩ := ih (by omega)
    have hb := aBest_lt hT a n k (by omega)
    rw [l_X5_cheapest_12, aBest]
    generalize l_X5_cheapest_12 (nI n) pm bm prm nom kdm lkm rpm r1 i0 k = p at ih ih2 ⊢
    have z := m_cheaper hT hm.1 (fun p hp => (hm.2.2.1 p hp).1) (show k < 64 by omega) hb
    unfold b_X5_cheapest_12
    rw [ih, e1, lxb_y (f_X5_priceOf (nI (aBest T a n k)) pm prm), lxb_y (f_X5_priceOf (nI k) pm prm), z]
    dsimp only [lxb]
    by_cases c1 : aSub T a k = true
    · rw [if_pos ((sub_nI hT (show k < 64 by omega)).mpr c1)]
      by_cases c2 : aCheaper T k (aBest T a n k) = true
      · obtain ⟨g1, g2⟩ := m_hushed hT hc hm hA hC hM h28 ih2 hn (show k < 64 by omega)
        rw [if_pos c2, if_neg (show ¬ (1 : Int32) = 0 by decide), g1]
        by_cases c3 : aHush T a n k = true
        · rw [if_pos c3, if_neg (show ¬ (1 : Int32) = 0 by decide), if_pos ⟨c1, c2, c3⟩]
          exact ⟨rfl, g2⟩
        · rw [if_neg c3, if_pos (show (0 : Int32) = 0 from rfl), if_neg (fun q => c3 q.2.2)]
          exact ⟨rfl, g2⟩
      · rw [if_neg c2, if_pos (show (0 : Int32) = 0 from rfl), if_neg (fun q => c2 q.2.1)]
        exact ⟨rfl, ih2⟩
    · rw [if_neg (fun q => c1 ((sub_nI hT (show k < 64 by omega)).mp q)), if_neg (fun q => c1 q.1)]
      exact ⟨rfl, ih2⟩
theorem tb_pow2 : ∀ n, n < 7 → itn 0 ((1 : Int32) <<< (nI n &&& 31)) = 2 ^ n := by decide +kernel
theorem m_cheap {T : TDt} (hT : TW T) {pc bc pm bm : Int32} {prc wdc kdc lkc noc rpc prm wdm kdm lkm nom rpm : Nat → Int32} (hc : CT T pc bc prc wdc kdc lkc noc rpc) (hm : CT T pm bm prm wdm kdm lkm nom rpm) {a : AS} (hA : AW T a) {pl pd nx tk ht tm : Int32} {wi now : Nat → Int32} (hC : CM T a pl pd nx tk ht tm wi) (hM : MR T 0 a now) (h28 : 0 ≤ now 28) {n : Nat} (hn : n < 2 ^ 31) : (f_X5_cheapest (nI n) pm bm now prm nom kdm lkm rpm).1 = nI (aBest T a n 64) ∧ MS now (f_X5_cheapest (nI n) pm bm now prm nom kdm lkm rpm).2 := by
  have h6 := hT.1
  have h2 : 2 ^ tnp T ≤ 2 ^ 6 := Nat.pow_le_pow_right (by decide) h6
  have w := m_who h6 (lv := 0) (by decide) hM.1 (fun p hp => (hA.1 p hp).1) (s := 0) (by decide)
  rw [← hm.1] at w
  dsimp only [f_X5_cheapest, lxb]
  rw [show itn 0 ((1 : Int32) <<< (pm &&& 31)) = 2 ^ tnp T by rw [hm.1]; exact tb_pow2 _ (by omega), aBest_64 hT]
  exact m_cheapL hT hc hm hA hC hM h28 hn _ w (MS.refl h28) w _ h2
theorem e_hush {T : TDt} (hT : TW T) {pc bc pm bm : Int32} {prc wdc kdc lkc noc rpc prm wdm kdm lkm nom rpm : Nat → Int32} (hc : CT T pc bc prc wdc kdc lkc noc rpc) (hm : CT T pm bm prm wdm kdm lkm nom rpm) {a : AS} (hA : AW T a) {pl pd nx tk ht tm : Int32} {wi now : Nat → Int32} (hC : CM T a pl pd nx tk ht tm wi) (hM : MR T 0 a now) (h28 : 0 ≤ now 28) (x0 x1 : Int32) (w1 w2 w3 w4 w5 w6 : Int32) (ww : Nat → Int32) {rc : Int32 × Int32 × Int32 × Int32 × Int32 × Int32 × Int32 × (Nat → Int32)} {rm : Int32 × (Nat → Int32)}
    (ec : rc = f_X4_hush x0 x1 pl pd nx tk ht tm pc bc prc w1 w2 w3 w4 w5 w6 wi ww noc kdc lkc rpc) (em : rm = f_X5_hush x0 x1 pm bm now prm nom kdm lkm rpm) : rc.1 = rm.1 ∧ MS now rm.2 := by
  subst ec em
  dsimp only [f_X4_hush, f_X5_hush, lxb]
  rcases rng x0 0 9 (by decide) (by decide) with ⟨n, _, n4, rfl⟩ | q
  · rw [show f_X5_in (Int32.toInt64 (nI n)) 0 9 = 1 from in_y (Nat.zero_le _) n4 (by decide), if_neg (nI_pos (show n < 2 ^ 31 by omega)), if_neg (show ¬ (9 : Int32) < nI n from nI_nlt (a := 9) (b := n) n4 (by decide)), if_neg (show ¬ (1 : Int32) = 0 by decide)]
    rcases rng x1 0 1 (by decide) (by decide) with ⟨j, _, j4, rfl⟩ | q
    · rw [show f_X5_in (Int32.toInt64 (nI j)) 0 1 = 1 from in_y (Nat.zero_le _) j4 (by decide), if_neg (nI_pos (show j < 2 ^ 31 by omega)), if_pos (show nI j ≤ (1 : Int32) from nI_le (b := 1) j4 (by decide)), if_neg (show ¬ (1 : Int32) = 0 by decide)]
      have g1 := c_cheap hT hc hm hA hC hM h28 (n := n) (by omega) w1 w2 w3 w4 w5 w6 ww
      obtain ⟨g2, g3⟩ := m_cheap hT hc hm hA hC hM h28 (n := n) (by omega)
      have hb := aBest_lt hT a n 64 (Nat.le_refl _)
      by_cases c : nI j = 0
      · rw [if_pos c, if_pos c]
        refine ⟨?_, g3⟩
        show f_X3_priceOf (f_X4_cheapestHush (nI n) pl pd nx tk ht tm pc bc prc w1 w2 w3 w4 w5 w6 wi ww noc kdc lkc rpc).1 pc prc = f_X5_priceOf (f_X5_cheapest (nI n) pm bm now prm nom kdm lkm rpm).1 pm prm
        rw [g1, g2, c_price hT hc.1 (fun p hp => (hc.2.2.1 p hp).1) hb, m_price hT hm.1 (fun p hp => (hm.2.2.1 p hp).1) hb]
      · rw [if_neg c, if_neg c]
        refine ⟨?_, g3⟩
        show (f_X4_cheapestHush (nI n) pl pd nx tk ht tm pc bc prc w1 w2 w3 w4 w5 w6 wi ww noc kdc lkc rpc).1 = (f_X5_cheapest (nI n) pm bm now prm nom kdm lkm rpm).1
        rw [g1, g2]
    · rw [show f_X5_in (Int32.toInt64 x1) 0 1 = 0 from in_n q (by decide) (by decide), if_pos (show (0 : Int32) = 0 from rfl)]
      refine ⟨?_, MS.refl h28⟩
      by_cases c : x1 < 0
      · rw [if_pos c]
      · have : ¬ x1 ≤ 1 := by
          rcases q with q | q
          · exact absurd q c
          · exact Int32.not_le.mpr q
        rw [if_neg c, if_neg this]
  · rw [show f_X5_in (Int32.toInt64 x0) 0 9 = 0 from in_n q (by decide) (by decide), if_pos (show (0 : Int32) = 0 from rfl)]
    refine ⟨?_, MS.refl h28⟩
    by_cases c : x0 < 0
    · rw [if_pos c]
    · have : (9 : Int32) < x0 := by
        rcases q with q | q
        · exact absurd q c
        · exact q
      rw [if_neg c, if_pos this]
