/-! later, stops, the loudest rest, nights: equal -/
theorem c_come {T : TDt} (hT : TW T) {a : AS} (hA : AW T a) {pl nx : Int32} (hp : BP (tnp T) a.1 0 pl) (hn : nx = nI a.2.2.1) : f_X2_barToCome pl nx (nI (tnb T)) = if aSilent T a = true then (-9) else nI a.2.2.1 := by
  dsimp only [f_X2_barToCome, lxb]
  rw [c_silent hT hA hp hn]
  by_cases c : aSilent T a = true
  · rw [if_pos c, if_neg (show ¬ (1 : Int32) = 0 by decide), if_pos c]
  · rw [if_neg c, if_pos rfl, if_neg c, hn]
theorem m_come {T : TDt} (hT : TW T) {lv : Nat} (hlv : lv < 2) {a : AS} (hA : AW T a) {v : Nat → Int32} (hM : MR T (16 * lv) a v) : f_X5_nextBar (nI lv) (nI (tnp T)) (nI (tnb T)) v = if aSilent T a = true then (-9) else nI a.2.2.1 := by
  dsimp only [f_X5_nextBar, lxb]
  rw [m_silent hT hlv hA hM, mA12 hlv, hM.2.1]
  by_cases c : aSilent T a = true
  · rw [if_pos c, if_neg (show ¬ (1 : Int32) = 0 by decide), if_pos c]
  · rw [if_neg c, if_pos rfl, if_neg c]
theorem e_later {T : TDt} (hT : TW T) {pc bc pm bm : Int32} {prc wdc kdc lkc noc rpc prm wdm kdm lkm nom rpm : Nat → Int32} (hc : CT T pc bc prc wdc kdc lkc noc rpc) (hm : CT T pm bm prm wdm kdm lkm nom rpm) {a : AS} (hA : AW T a) {pl pd nx tk ht tm : Int32} {wi now : Nat → Int32} (hC : CM T a pl pd nx tk ht tm wi) (hM : MR T 0 a now) (h28 : 0 ≤ now 28) (x0 x1 : Int32) (w1 w2 w3 w4 w5 w6 : Int32) (ww : Nat → Int32) {rc : Int32 × Int32 × Int32 × Int32 × Int32 × Int32 × Int32 × (Nat → Int32)} {rm : Int32 × (Nat → Int32)}
    (ec : rc = f_X4_later x0 x1 w1 w2 w3 w4 w5 w6 pl pd nx tk ht tm wi ww pc bc noc kdc lkc rpc) (em : rm = f_X5_later x0 x1 pm bm now nom kdm lkm rpm) : rc.1 = rm.1 ∧ MS now rm.2 := by
  subst ec em
  have h6 := hT.1
  dsimp only [f_X4_later, f_X5_later, lxb]
  rcases rng x0 0 30 (by decide) (by decide) with ⟨n, _, n4, rfl⟩ | q
  · rw [show f_X5_in (Int32.toInt64 (nI n)) 0 30 = 1 from in_y (Nat.zero_le _) n4 (by decide), if_neg (nI_pos (show n < 2 ^ 31 by omega)), if_neg (show ¬ (30 : Int32) < nI n from nI_nlt (a := 30) (b := n) n4 (by decide)), if_neg (show ¬ (1 : Int32) = 0 by decide)]
    rcases rng x1 0 1 (by decide) (by decide) with ⟨j, _, j4, rfl⟩ | q
    · rw [show f_X5_in (Int32.toInt64 (nI j)) 0 1 = 1 from in_y (Nat.zero_le _) j4 (by decide), if_neg (nI_pos (show j < 2 ^ 31 by omega)), if_pos (show nI j ≤ (1 : Int32) from nI_le (b := 1) j4 (by decide)), if_neg (show ¬ (1 : Int32) = 0 by decide)]
      have g1 := c_playBars hT hA hc (c_become hT hC (w := ww) rfl) (n := n) (by omega) rfl
      obtain ⟨l1, l2⟩ := m_lay hT hM
      obtain ⟨_, g2, g3⟩ := m_go hT hA hm l1 (n := n) (by omega) rfl
      have hA2 := aGo_ok hA n
      have g4 := g2.b28 hT hA2
      have w := m_who h6 (lv := 1) (by decide) g2.1 (fun p hp => (hA2.1 p hp).1) (s := 0) (by decide)
      have nb := m_come hT (lv := 1) (by decide) hA2 g2
      have cb := c_come hT hA2 g1.1.1 g1.2.2.1
      rw [hc.2.1]
      rw [hc.2.1] at g1 cb
      rw [← hm.1] at w nb
      rw [← hm.2.1] at nb
      by_cases c : nI j = 0
      · rw [if_pos c, if_pos c]
        refine ⟨?_, MS.of (l2.trans g3) g4⟩
        rw [show (1 : Int32) = nI 1 from rfl, show (0 : Int32) = nI 0 from rfl, w]
        exact g1.1.1.who h6
      · rw [if_neg c, if_neg c]
        refine ⟨?_, MS.of (l2.trans g3) g4⟩
        rw [show (1 : Int32) = nI 1 from rfl, nb]
        exact cb
    · rw [show f_X5_in (Int32.toInt64 x1) 0 1 = 0 from in_n q (by decide) (by decide), if_pos (show (0 : Int32) = 0 from rfl)]
      refine ⟨?_, MS.refl h28⟩
      by_cases c : x1 < 0
      · rw [if_pos c]
      · have : ¬ x1 ≤ 1 := by
          rcases q with q | q
          · exact absurd q c
          · exact Int32.not_le.mpr q
        rw [if_neg c, if_neg this]
  · rw [show f_X5_in (Int32.toInt64 x0) 0 30 = 0 from in_n q (by decide) (by decide), if_pos (show (0 : Int32) = 0 from rfl)]
    refine ⟨?_, MS.refl h28⟩
    by_cases c : x0 < 0
    · rw [if_pos c]
    · have : (30 : Int32) < x0 := by
        rcases q with q | q
        · exact absurd q c
        · exact q
      rw [if_neg c, if_pos this]
theorem e_stopsL {T : TDt} (hT : TW T) {pc bc pm bm : Int32} {prc wdc kdc lkc noc rpc prm wdm kdm lkm nom rpm : Nat → Int32} (hc : CT T pc bc prc wdc kdc lkc noc rpc) (hm : CT T pm bm prm wdm kdm lkm nom rpm) {pd ht : Int32} (rr : Int32 × Int32 × Int32 × Int32 × Int32 × Int32 × (Nat → Int32)) (e2 : rr.2.1 = pd) : ∀ (n k : Nat) (a : AS) (pl nx tk tm : Int32) (wi v : Nat → Int32), AW T a → CM T a pl pd nx tk ht tm wi → MR T 16 a v →
    (l_X4_stops_13 pc bc noc kdc lkc rpc rr n k (pl, nx, tk, tm, wi)).1 = (l_X5_stops_6 pm bm nom kdm lkm rpm n k v).1 ∧ MY 16 v (l_X5_stops_6 pm bm nom kdm lkm rpm n k v).2 ∧ 0 ≤ (l_X5_stops_6 pm bm nom kdm lkm rpm n k v).2 28
  | 0, k, a, pl, nx, tk, tm, wi, v, hA, hC, hM => ⟨rfl, MY.refl, hM.b28 hT hA⟩
  | n + 1, k, a, pl, nx, tk, tm, wi, v, hA, hC, hM => by
    obtain ⟨b1, b2⟩ := c_bar hT hA hc hC rfl
    obtain ⟨_, g2, g3⟩ := m_pass hT (lv := 1) (by decide) hA hm hM rfl
    have hs := m_silent hT (lv := 1) (by decide) hA hM
    rw [← hm.1, ← hm.2.1] at hs
    dsimp only [l_X4_stops_13, l_X5_stops_6, lxb]
    rw [e2, b1, show f_X5_isSilent 1 pm bm v = (if aSilent T a = true then 1 else 0) from hs]
    by_cases c : aSilent T a = true
    · rw [if_pos c, if_pos rfl, if_pos c, if_neg (show ¬ (1 : Int32) = 0 by decide)]
      exact ⟨rfl, MY.refl, hM.b28 hT hA⟩
    · rw [if_neg c, if_neg c, if_pos (show (0 : Int32) = 0 from rfl), if_neg (show ¬ (1 : Int32) = 0 by decide)]
      obtain ⟨i1, i2, i3⟩ := e_stopsL hT hc hm rr e2 n (k + 1) (aPass T a) _ _ _ _ _ _ (aPass_ok hA) b2 g2
      exact ⟨i1, g3.trans i2, i3⟩
theorem e_stops {T : TDt} (hT : TW T) {pc bc pm bm : Int32} {prc wdc kdc lkc noc rpc prm wdm kdm lkm nom rpm : Nat → Int32} (hc : CT T pc bc prc wdc kdc lkc noc rpc) (hm : CT T pm bm prm wdm kdm lkm nom rpm) {a : AS} (hA : AW T a) {pl pd nx tk ht tm : Int32} {wi now : Nat → Int32} (hC : CM T a pl pd nx tk ht tm wi) (hM : MR T 0 a now) (h28 : 0 ≤ now 28) (ww : Nat → Int32) {rc : Int32 × Int32 × Int32 × Int32 × Int32 × Int32 × Int32 × (Nat → Int32)} {rm : Int32 × (Nat → Int32)}
    (ec : rc = f_X4_stops pl pd nx tk ht tm wi ww pc bc noc kdc lkc rpc) (em : rm = f_X5_stops pm bm now nom kdm lkm rpm) : rc.1 = rm.1 ∧ MS now rm.2 := by
  subst ec em
  obtain ⟨l1, l2⟩ := m_lay hT hM
  have hB := c_become hT hC (w := ww) rfl
  obtain ⟨i1, i2, i3⟩ := e_stopsL hT hc hm (f_X2_become pl pd nx tk ht tm wi ww) (pd := pd) rfl 31 0 a _ _ _ _ _ _ hA hB l1
  exact ⟨i1, MS.of (l2.trans i2) i3⟩
