/-! rests: equal -/
theorem aHush_play {T : TDt} (a : AS) (n : Nat) : aHush T a n (aWho a.1 0 (tnp T)) = true := by
  have h : aSilent T (aPaySet a (aWho a.1 0 (tnp T))) = true := by
    unfold aSilent
    have : aMany (aPaySet a (aWho a.1 0 (tnp T))).1 (tnp T) = 0 := many_0.mpr fun p hp q => by
      have q : (if (aWho a.1 0 (tnp T)).testBit p = true then 1 else a.1 p) = 0 := q
      rw [aWho_bit] at q
      by_cases c : a.1 p = 0
      · simp [hp, c] at q
      · simp [c] at q
    rw [this]; rfl
  unfold aHush
  rw [aGo_sil h, h]
theorem aBest_hush {T : TDt} (a : AS) (n : Nat) : ∀ k, aHush T a n (aBest T a n k) = true
  | 0 => aHush_play a n
  | k + 1 => by
    unfold aBest
    split
    · rename_i c; exact c.2.2
    · exact aBest_hush a n k
theorem aBest_free {T : TDt} (a : AS) (n : Nat) (h : aHush T a n 0 = true) : ∀ k, aPrice T (aBest T a n (k + 1)) (tnp T) = 0
  | 0 => by
    have p0 : ∀ m, aPrice T 0 m = 0 := fun m => by
      induction m with
      | zero => rfl
      | succ m ih => rw [aPrice, ih, Nat.zero_testBit]; rfl
    have s0 : aSub T a 0 = true := by unfold aSub; simp
    rw [aBest]
    by_cases c : aCheaper T 0 (aBest T a n 0) = true
    · rw [if_pos ⟨s0, c, h⟩]; exact p0 _
    · rw [if_neg (fun q => c q.2.1)]
      unfold aCheaper at c
      rw [p0] at c
      simp at c
      omega
  | k + 1 => by
    have ih := aBest_free a n h k
    rw [aBest]
    by_cases c : aSub T a (k + 1) = true ∧ aCheaper T (k + 1) (aBest T a n (k + 1)) = true ∧ aHush T a n (k + 1) = true
    · rw [if_pos c]
      have d := c.2.1
      unfold aCheaper at d
      rw [ih] at d
      simp at d
      exact d.1
    · rw [if_neg c]; exact ih
def gv (P a b : Nat) : Int32 := (if 3 * (a + b) < P then (0 : Int32) else 8) - 3 * nI a
theorem m_gain {T : TDt} (hT : TW T) {pc bc pm bm : Int32} {prc wdc kdc lkc noc rpc prm wdm kdm lkm nom rpm : Nat → Int32} (hc : CT T pc bc prc wdc kdc lkc noc rpc) (hm : CT T pm bm prm wdm kdm lkm nom rpm) {a : AS} (hA : AW T a) {pl pd nx tk ht tm : Int32} {wi now : Nat → Int32} (hC : CM T a pl pd nx tk ht tm wi) (hM : MR T 0 a now) (h28 : 0 ≤ now 28) {v : Nat → Int32} (hS : MS now v) {i j : Nat} (hi : i < 3) (hj : j < 3) {r : Int32 × (Nat → Int32)} (er : r = f_X5_gain (nI i) (nI j) pm bm (nI (aBest T a 3 64)) (nI (aPrice T (aBest T a 3 64) (tnp T))) v nom kdm lkm rpm) : r.1 = gv (aPrice T (aBest T a 3 64) (tnp T)) i j ∧ MS now r.2 := by
  subst er
  have h6 := hT.1
  have hb := aBest_lt hT a 3 64 (Nat.le_refl _)
  have hp := aPrice_le hT (aBest T a 3 64) (tnp T) (Nat.le_refl _)
  dsimp only [f_X5_gain, lxb]
  unfold gv
  have e : (3 : Int32) * (nI i + nI j) = nI (3 * (i + j)) := by rw [nI_add, show (3 : Int32) = nI 3 from rfl, pk_mul]
  rw [e]
  by_cases c : 3 * (i + j) < aPrice T (aBest T a 3 64) (tnp T)
  · obtain ⟨g1, g2⟩ := m_hushed hT hc hm hA hC hM h28 hS (n := 3) (by decide) (k := 0) (by decide)
    have hn : ¬ aHush T a 3 0 = true := fun q => by
      have : aPrice T (aBest T a 3 64) (tnp T) = 0 := aBest_free a 3 q 63
      omega
    rw [if_pos (nI_lt c (by omega)), if_pos c, show f_X5_isHushed 0 3 pm bm v nom kdm lkm rpm = f_X5_isHushed (nI 0) (nI 3) pm bm v nom kdm lkm rpm from rfl, g1, if_neg hn, if_pos (show (0 : Int32) = 0 from rfl)]
    exact ⟨rfl, g2⟩
  · obtain ⟨g1, g2⟩ := m_hushed hT hc hm hA hC hM h28 hS (n := 3) (by decide) hb
    rw [if_neg (nI_nlt (by omega) (by omega)), if_neg c, show f_X5_isHushed (nI (aBest T a 3 64)) 3 pm bm v nom kdm lkm rpm = f_X5_isHushed (nI (aBest T a 3 64)) (nI 3) pm bm v nom kdm lkm rpm from rfl, g1, if_pos (aBest_hush a 3 64), if_neg (show ¬ (1 : Int32) = 0 by decide)]
    exact ⟨rfl, g2⟩
def rB (P i j : Nat) : Nat → Int32
  | 0 => 1
  | k + 1 => if rB P i j k = 0 then 0 else if gv P i j < gv P k j then 0 else if gv P j i < gv P k i then 0 else 1
theorem m_isRest {T : TDt} (hT : TW T) {pc bc pm bm : Int32} {prc wdc kdc lkc noc rpc prm wdm kdm lkm nom rpm : Nat → Int32} (hc : CT T pc bc prc wdc kdc lkc noc rpc) (hm : CT T pm bm prm wdm kdm lkm nom rpm) {a : AS} (hA : AW T a) {pl pd nx tk ht tm : Int32} {wi now : Nat → Int32} (hC : CM T a pl pd nx tk ht tm wi) (hM : MR T 0 a now) (h28 : 0 ≤ now 28) {v : Nat → Int32} (hS : MS now v) {i j : Nat} (hi : i < 3) (hj : j < 3) : ∀ k, k ≤ 3 → (l_X5_isRest_5 (nI i) (nI j) pm bm (nI (aBest T a 3 64)) (nI (aPrice T (aBest T a 3 64) (tnp T))) nom kdm lkm rpm (1, v) k).1 = rB (aPrice T (aBest T a 3 64) (tnp T)) i j k ∧ MS now (l_X5_isRest_5 (nI i) (nI j) pm bm (nI (aBest T a 3 64)) (nI (aPrice T (aBest T a 3 64) (tnp T))) nom kdm lkm rpm (1, v) k).2 := by
  intro k
  induction k with
  | zero => intro _; exact ⟨rfl, hS⟩
  | succ k ih =>
    intro hk
    obtain ⟨i1, i2⟩ := ih (by omega)
    rw [l_X5_isRest_5, rB]
    generalize l_X5_isRest_5 (nI i) (nI j) pm bm (nI (aBest T a 3 64)) (nI (aPrice T (aBest T a 3 64) (tnp T))) nom kdm lkm rpm (1, v) k = p at i1 i2 ⊢
    unfold b_X5_isRest_5
    rw [i1]
    by_cases c : rB (aPrice T (aBest T a 3 64) (tnp T)) i j k = 0
    · rw [if_pos c, if_pos c]; exact ⟨rfl, i2⟩
    · rw [if_neg c, if_neg c]
      obtain ⟨a1, a2⟩ := m_gain hT hc hm hA hC hM h28 i2 (i := k) (j := j) (by omega) hj rfl
      generalize f_X5_gain (nI k) (nI j) pm bm (nI (aBest T a 3 64)) (nI (aPrice T (aBest T a 3 64) (tnp T))) p.2 nom kdm lkm rpm = r1 at a1 a2 ⊢
      rw [lxb_y r1]
      obtain ⟨b1, b2⟩ := m_gain hT hc hm hA hC hM h28 a2 (i := i) (j := j) hi hj rfl
      generalize f_X5_gain (nI i) (nI j) pm bm (nI (aBest T a 3 64)) (nI (aPrice T (aBest T a 3 64) (tnp T))) r1.2 nom kdm lkm rpm = r3 at b1 b2 ⊢
      rw [lxb_y r3, a1, b1]
      by_cases d : gv (aPrice T (aBest T a 3 64) (tnp T)) i j < gv (aPrice T (aBest T a 3 64) (tnp T)) k j
      · rw [if_pos d, if_pos d]; exact ⟨rfl, b2⟩
      · rw [if_neg d, if_neg d]
        obtain ⟨c1, c2⟩ := m_gain hT hc hm hA hC hM h28 b2 (i := k) (j := i) (by omega) hi rfl
        generalize f_X5_gain (nI k) (nI i) pm bm (nI (aBest T a 3 64)) (nI (aPrice T (aBest T a 3 64) (tnp T))) r3.2 nom kdm lkm rpm = r5 at c1 c2 ⊢
        rw [lxb_y r5]
        obtain ⟨d1, d2⟩ := m_gain hT hc hm hA hC hM h28 c2 (i := j) (j := i) hj hi rfl
        generalize f_X5_gain (nI j) (nI i) pm bm (nI (aBest T a 3 64)) (nI (aPrice T (aBest T a 3 64) (tnp T))) r5.2 nom kdm lkm rpm = r7 at d1 d2 ⊢
        rw [lxb_y r7, c1, d1]
        by_cases f : gv (aPrice T (aBest T a 3 64) (tnp T)) j i < gv (aPrice T (aBest T a 3 64) (tnp T)) k i
        · rw [if_pos f, if_pos f]; exact ⟨rfl, d2⟩
        · rw [if_neg f, if_neg f]; exact ⟨rfl, d2⟩
def rF (P : Nat) : Nat → Int32 × Int32
  | 0 => (0, -9)
  | k + 1 => if rB P (k / 3) (k % 3) 3 = 0 then rF P k else ((rF P k).1 + 1, if (rF P k).1 = 0 then (10 * nI (k / 3)) + nI (k % 3) else (rF P k).2)
theorem tb_rests : ∀ P, P < 55 → l_X4_rests_34 (nI P) (0, -9) 3 = rF P 9 := by decide +kernel
theorem m_restsL {T : TDt} (hT : TW T) {pc bc pm bm : Int32} {prc wdc kdc lkc noc rpc prm wdm kdm lkm nom rpm : Nat → Int32} (hc : CT T pc bc prc wdc kdc lkc noc rpc) (hm : CT T pm bm prm wdm kdm lkm nom rpm) {a : AS} (hA : AW T a) {pl pd nx tk ht tm : Int32} {wi now : Nat → Int32} (hC : CM T a pl pd nx tk ht tm wi) (hM : MR T 0 a now) (h28 : 0 ≤ now 28) (rr : Int32 × (Nat → Int32)) (e1 : rr.1 = nI (aBest T a 3 64)) {v : Nat → Int32} (hS : MS now v) : ∀ k, k ≤ 9 →
    ((l_X5_rests_42 pm bm nom kdm lkm rpm rr (nI (aPrice T (aBest T a 3 64) (tnp T))) (0, -9, v) k).1, (l_X5_rests_42 pm bm nom kdm lkm rpm rr (nI (aPrice T (aBest T a 3 64) (tnp T))) (0, -9, v) k).2.1) = rF (aPrice T (aBest T a 3 64) (tnp T)) k ∧ MS now (l_X5_rests_42 pm bm nom kdm lkm rpm rr (nI (aPrice T (aBest T a 3 64) (tnp T))) (0, -9, v) k).2.2 := by
  intro k
  induction k with
  | zero => intro _; exact ⟨rfl, hS⟩
  | succ k ih =>
    intro hk
    obtain ⟨i1, i2⟩ := ih (by omega)
    rw [l_X5_rests_42, rF]
    generalize l_X5_rests_42 pm bm nom kdm lkm rpm rr (nI (aPrice T (aBest T a 3 64) (tnp T))) (0, -9, v) k = p at i1 i2 ⊢
    have i3 : p.1 = (rF (aPrice T (aBest T a 3 64) (tnp T)) k).1 := congrArg Prod.fst i1
    have i4 : p.2.1 = (rF (aPrice T (aBest T a 3 64) (tnp T)) k).2 := congrArg Prod.snd i1
    have e3 : nI k / 3 = nI (k / 3) := nx_div rfl (show (3 : Int32) = nI 3 from rfl) (by omega) (by omega) (by omega)
    have e4 : nI k - nI k / 3 * 3 = nI (k % 3) := nx_rem rfl (show (3 : Int32) = nI 3 from rfl) (by omega) (by omega) (by omega)
    unfold b_X5_rests_42
    rw [e4, e3, e1]
    obtain ⟨g1, g2⟩ := m_isRest hT hc hm hA hC hM h28 i2 (i := k / 3) (j := k % 3) (by omega) (by omega) 3 (Nat.le_refl _)
    have g3 : f_X5_isRest (nI (k / 3)) (nI (k % 3)) pm bm (nI (aBest T a 3 64)) (nI (aPrice T (aBest T a 3 64) (tnp T))) p.2.2 nom kdm lkm rpm = ((l_X5_isRest_5 (nI (k / 3)) (nI (k % 3)) pm bm (nI (aBest T a 3 64)) (nI (aPrice T (aBest T a 3 64) (tnp T))) nom kdm lkm rpm (1, p.2.2) 3).1, (l_X5_isRest_5 (nI (k / 3)) (nI (k % 3)) pm bm (nI (aBest T a 3 64)) (nI (aPrice T (aBest T a 3 64) (tnp T))) nom kdm lkm rpm (1, p.2.2) 3).2) := by
      unfold f_X5_isRest
      rw [show itn 0 3 = 3 by decide +kernel, lxb_y]
    rw [g3, lxb_y, g1]
    generalize (l_X5_isRest_5 (nI (k / 3)) (nI (k % 3)) pm bm (nI (aBest T a 3 64)) (nI (aPrice T (aBest T a 3 64) (tnp T))) nom kdm lkm rpm (1, p.2.2) 3).2 = w at g2 ⊢
    clear g3 g1
    generalize rB (aPrice T (aBest T a 3 64) (tnp T)) (k / 3) (k % 3) 3 = rb
    generalize rF (aPrice T (aBest T a 3 64) (tnp T)) k = rf at i1 i3 i4 ⊢
    by_cases c : rb = 0
    · rw [if_pos c, if_pos c]
      dsimp only
      exact ⟨i1, g2⟩
    · rw [if_neg c, if_neg c]
      dsimp only [lxb]
      rw [i3, i4]
      exact ⟨rfl, g2⟩
theorem e_rests {T : TDt} (hT : TW T) {pc bc pm bm : Int32} {prc wdc kdc lkc noc rpc prm wdm kdm lkm nom rpm : Nat → Int32} (hc : CT T pc bc prc wdc kdc lkc noc rpc) (hm : CT T pm bm prm wdm kdm lkm nom rpm) {a : AS} (hA : AW T a) {pl pd nx tk ht tm : Int32} {wi now : Nat → Int32} (hC : CM T a pl pd nx tk ht tm wi) (hM : MR T 0 a now) (h28 : 0 ≤ now 28) (x0 : Int32) (hw hs : Int32) (w1 w2 w3 w4 w5 w6 : Int32) (ww : Nat → Int32) {rc : Int32 × Int32 × Int32 × Int32 × Int32 × Int32 × Int32 × (Nat → Int32)} {rm : Int32 × Int32 × Int32 × (Nat → Int32)}
    (ec : rc = f_X4_rests x0 pl pd nx tk ht tm pc bc prc w1 w2 w3 w4 w5 w6 wi ww noc kdc lkc rpc) (em : rm = f_X5_rests x0 pm bm hw hs now prm nom kdm lkm rpm) : rc.1 = rm.1 ∧ MS now rm.2.2.2 := by
  subst ec em
  have h6 := hT.1
  dsimp only [f_X4_rests, f_X5_rests, lxb]
  rcases rng x0 0 1 (by decide) (by decide) with ⟨j, _, j4, rfl⟩ | q
  · rw [show f_X5_in (Int32.toInt64 (nI j)) 0 1 = 1 from in_y (Nat.zero_le _) j4 (by decide), if_neg (nI_pos (show j < 2 ^ 31 by omega)), if_pos (show nI j ≤ (1 : Int32) from nI_le (b := 1) j4 (by decide)), if_neg (show ¬ (1 : Int32) = 0 by decide)]
    have g1 : (f_X4_cheapestHush 3 pl pd nx tk ht tm pc bc prc w1 w2 w3 w4 w5 w6 wi ww noc kdc lkc rpc).1 = nI (aBest T a 3 64) := c_cheap hT hc hm hA hC hM h28 (n := 3) (by omega) w1 w2 w3 w4 w5 w6 ww
    obtain ⟨g2, g3⟩ := m_cheap hT hc hm hA hC hM h28 (n := 3) (by omega)
    rw [show nI 3 = (3 : Int32) from rfl] at g2 g3
    have hb := aBest_lt hT a 3 64 (Nat.le_refl _)
    have hp := aPrice_le hT (aBest T a 3 64) (tnp T) (Nat.le_refl _)
    obtain ⟨l1, l2⟩ := m_restsL hT hc hm hA hC hM h28 (f_X5_cheapest 3 pm bm now prm nom kdm lkm rpm) g2 g3 9 (Nat.le_refl _)
    have p1 := c_price hT hc.1 (fun p hp => (hc.2.2.1 p hp).1) hb
    have p2 := m_price hT hm.1 (fun p hp => (hm.2.2.1 p hp).1) hb
    rw [← tb_rests _ (by omega)] at l1
    rw [g1, p1, g2, p2, show itn 0 3 = 3 by decide +kernel, show itn 0 9 = 9 by decide +kernel]
    generalize l_X5_rests_42 pm bm nom kdm lkm rpm (f_X5_cheapest 3 pm bm now prm nom kdm lkm rpm) (nI (aPrice T (aBest T a 3 64) (tnp T))) (0, -9, (f_X5_cheapest 3 pm bm now prm nom kdm lkm rpm).2) 9 = p at l1 l2 ⊢
    generalize l_X4_rests_34 (nI (aPrice T (aBest T a 3 64) (tnp T))) (0, -9) 3 = q at l1 ⊢
    have e3 : p.1 = q.1 := congrArg Prod.fst l1
    have e4 : p.2.1 = q.2 := congrArg Prod.snd l1
    by_cases c : nI j = 0
    · rw [if_pos c, if_pos c]; exact ⟨e3.symm, l2⟩
    · rw [if_neg c, if_neg c]; exact ⟨e4.symm, l2⟩
  · rw [show f_X5_in (Int32.toInt64 x0) 0 1 = 0 from in_n q (by decide) (by decide), if_pos (show (0 : Int32) = 0 from rfl)]
    refine ⟨?_, MS.refl h28⟩
    by_cases c : x0 < 0
    · rw [if_pos c]
    · have : ¬ x0 ≤ 1 := by
        rcases q with q | q
        · exact absurd q c
        · exact Int32.not_le.mpr q
      rw [if_neg c, if_neg this]
