/-! acts: equal -/
theorem now28 {v v' : Nat → Int32} (h : 0 ≤ v 28) (hY : MY (16 * 0) v v') : 0 ≤ v' 28 := by rw [hY 28 (Or.inr (by omega))]; exact h
theorem e_bar {T : TDt} (hT : TW T) {pc bc pm bm : Int32} {prc wdc kdc lkc noc rpc prm wdm kdm lkm nom rpm : Nat → Int32} (hc : CT T pc bc prc wdc kdc lkc noc rpc) (hm : CT T pm bm prm wdm kdm lkm nom rpm) {pl pd nx tk ht tm : Int32} {wi now : Nat → Int32} (hN : NW T pl pd nx tk ht tm wi now) {q1 q2 ma mn : Int32} {b0 b1 b2 b3 b4 b5 : Nat → Int32} {br : Nat → Nat → Int32} {row : Nat → Int32} (hR : RG T q1 q2 ma mn b0 b1 b2 b3 b4 b5 br row) (bw : Nat → Int32) (ba : Nat → Nat) {rc : Int32 × Int32 × Int32 × Int32 × Int32 × Int32 × Int32 × Int32 × Int32 × Int32 × Int32 × (Nat → Int32) × (Nat → Int32) × Int32 × Int32 × (Nat → Int32) × (Nat → Int32) × (Nat → Int32) × (Nat → Int32) × (Nat → Int32) × (Nat → Int32) × (Nat → Nat → Int32)} {rm : Int32 × Int32 × Int32 × (Nat → Int32) × (Nat → Int32)}
    (ec : rc = f_X4_bar pl pd nx tk ht tm wi bw pc bc noc kdc lkc rpc q1 q2 ba b0 b1 b2 b3 b4 b5 br) (em : rm = f_X5_bar pm bm ma mn now row nom kdm lkm rpm) :
    rc.1 = rm.1 ∧ NW T rc.2.2.2.2.2.2.2.1 pd rc.2.2.2.2.2.2.2.2.1 rc.2.2.2.2.2.2.2.2.2.1 ht rc.2.2.2.2.2.2.2.2.2.2.1 rc.2.2.2.2.2.2.2.2.2.2.2.1 rm.2.2.2.1 ∧ RG T rc.2.2.2.2.2.2.2.2.2.2.2.2.2.1 rc.2.2.2.2.2.2.2.2.2.2.2.2.2.2.1 rm.2.1 rm.2.2.1 rc.2.2.2.2.2.2.2.2.2.2.2.2.2.2.2.1 rc.2.2.2.2.2.2.2.2.2.2.2.2.2.2.2.2.1 rc.2.2.2.2.2.2.2.2.2.2.2.2.2.2.2.2.2.1 rc.2.2.2.2.2.2.2.2.2.2.2.2.2.2.2.2.2.2.1 rc.2.2.2.2.2.2.2.2.2.2.2.2.2.2.2.2.2.2.2.1 rc.2.2.2.2.2.2.2.2.2.2.2.2.2.2.2.2.2.2.2.2.1 rc.2.2.2.2.2.2.2.2.2.2.2.2.2.2.2.2.2.2.2.2.2 rm.2.2.2.2 := by
  subst ec em
  obtain ⟨a, hA, hK, hC, hM, h28⟩ := hN
  unfold f_X4_bar f_X5_bar
  have hB := c_become hT hC (w := bw) rfl
  generalize f_X2_become pl pd nx tk ht tm wi bw = r1 at hB ⊢
  obtain ⟨g1, g2⟩ := c_bar hT hA hc hC rfl
  generalize f_X2_playBar pl pd nx tk tm pc bc noc kdc wi lkc rpc = r2 at g1 g2 ⊢
  have s := m_silent hT (lv := 0) (by decide) hA hM
  rw [← hm.1, ← hm.2.1] at s
  simp only [lxb_y]
  rw [show f_X5_isSilent 0 pm bm now = _ from s, g1]
  by_cases c : aSilent T a = true
  · rw [if_pos c, if_pos c, if_pos (show (0 : Int32) = 0 from rfl), if_neg (show ¬ (1 : Int32) = 0 by decide)]
    rw [aPass_sil c] at g2
    exact ⟨rfl, ⟨a, hA, hK, g2, hM, h28⟩, hR⟩
  · rw [if_neg c, if_neg c, if_neg (show ¬ (1 : Int32) = 0 by decide), if_pos (show (0 : Int32) = 0 from rfl)]
    obtain ⟨_, p2, p3⟩ := m_pass hT (lv := 0) (by decide) hA hm hM rfl
    have p2 : MR T (16 * 0) (aPass T a) (f_X5_passOn 0 pm bm now nom kdm lkm rpm).2 := p2
    have p3 : MY (16 * 0) now (f_X5_passOn 0 pm bm now nom kdm lkm rpm).2 := p3
    have hA' := aPass_ok hA
    have w := m_many hT.1 (lv := 0) (by decide) p2.1 (fun p hp => (hA'.1 p hp).1)
    rw [← hm.1] at w
    have hG := hR.add hT hA hK hB hM ba rfl rfl
    generalize f_X0_add q1 q2 r1.1 r1.2.1 r1.2.2.1 r1.2.2.2.1 r1.2.2.2.2.1 r1.2.2.2.2.2.1 ba b0 b1 b2 b3 b4 b5 br r1.2.2.2.2.2.2 = r3 at hG ⊢
    generalize f_X5_keepAct ma mn now row = k at hG ⊢
    refine ⟨?_, ⟨aPass T a, hA', AK.pass hK, g2, p2, now28 h28 p3⟩, hG⟩
    show f_X2_howManyPlay r2.2.1 = f_X5_howMany 0 pm (f_X5_passOn 0 pm bm now nom kdm lkm rpm).2
    rw [show f_X5_howMany 0 pm (f_X5_passOn 0 pm bm now nom kdm lkm rpm).2 = _ from w]
    exact g2.1.1.many hT.1
theorem gift_no {x ht : Int32} (h : x < nI 1 ∨ nI 9 < x) : f_X2_takeGift x ht = (0, ht) := by
  unfold f_X2_takeGift
  by_cases c : x < 1
  · rw [if_pos c]
  · have : ¬ x ≤ 9 := by
      rcases h with q | q
      · exact absurd q c
      · exact Int32.not_le.mpr q
    rw [if_neg c, if_neg this]
theorem e_give {T : TDt} (hT : TW T) {pl pd nx tk ht tm : Int32} {wi now : Nat → Int32} (hN : NW T pl pd nx tk ht tm wi now) {q1 q2 ma mn : Int32} {b0 b1 b2 b3 b4 b5 : Nat → Int32} {br : Nat → Nat → Int32} {row : Nat → Int32} (hR : RG T q1 q2 ma mn b0 b1 b2 b3 b4 b5 br row) (x0 : Int32) (bw : Nat → Int32) (ba : Nat → Nat) {rc : Int32 × Int32 × Int32 × Int32 × Int32 × Int32 × Int32 × Int32 × (Nat → Int32) × Int32 × Int32 × (Nat → Int32) × (Nat → Int32) × (Nat → Int32) × (Nat → Int32) × (Nat → Int32) × (Nat → Int32) × (Nat → Nat → Int32)} {rm : Int32 × Int32 × Int32 × (Nat → Int32) × (Nat → Int32)}
    (ec : rc = f_X4_give x0 pl pd nx tk ht tm wi bw q1 q2 ba b0 b1 b2 b3 b4 b5 br) (em : rm = f_X5_give x0 ma mn now row) :
    rc.1 = rm.1 ∧ NW T pl pd nx tk rc.2.2.2.2.2.2.2.1 tm wi rm.2.2.2.1 ∧ RG T rc.2.2.2.2.2.2.2.2.2.1 rc.2.2.2.2.2.2.2.2.2.2.1 rm.2.1 rm.2.2.1 rc.2.2.2.2.2.2.2.2.2.2.2.1 rc.2.2.2.2.2.2.2.2.2.2.2.2.1 rc.2.2.2.2.2.2.2.2.2.2.2.2.2.1 rc.2.2.2.2.2.2.2.2.2.2.2.2.2.2.1 rc.2.2.2.2.2.2.2.2.2.2.2.2.2.2.2.1 rc.2.2.2.2.2.2.2.2.2.2.2.2.2.2.2.2.1 rc.2.2.2.2.2.2.2.2.2.2.2.2.2.2.2.2.2 rm.2.2.2.2 := by
  subst ec em
  obtain ⟨a, hA, hK, hC, hM, h28⟩ := hN
  unfold f_X4_give f_X5_give
  simp only [lxb_y]
  have hB := c_become hT hC (w := bw) rfl
  generalize f_X2_become pl pd nx tk ht tm wi bw = r1 at hB ⊢
  rcases rng x0 1 9 (by decide) (by decide) with ⟨n, n3, n4, rfl⟩ | q
  · obtain ⟨g1, g2⟩ := (c_give hA hC (n := n) (by omega) rfl).1 ⟨n3, n4⟩
    generalize f_X2_takeGift (nI n) ht = r2 at g1 g2 ⊢
    obtain ⟨p2, p3⟩ := m_give (lv := 0) (by decide) hA hT hM (n := n) (by omega)
    have p2 : MR T (16 * 0) (aGive a n) (f_X5_giveOn 0 (nI n) now) := p2
    have p3 : MY (16 * 0) now (f_X5_giveOn 0 (nI n) now) := p3
    have hG := hR.add hT hA hK hB hM ba rfl rfl
    rw [show f_X5_in (Int32.toInt64 (nI n)) 1 9 = 1 from in_y n3 n4 (by decide)]
    generalize f_X0_add q1 q2 r1.1 r1.2.1 r1.2.2.1 r1.2.2.2.1 r1.2.2.2.2.1 r1.2.2.2.2.2.1 ba b0 b1 b2 b3 b4 b5 br r1.2.2.2.2.2.2 = r3 at hG ⊢
    generalize f_X5_keepAct ma mn now row = k at hG ⊢
    rw [g1, if_neg (show ¬ (1 : Int32) = 0 by decide), if_neg (show ¬ (1 : Int32) = 0 by decide)]
    refine ⟨?_, ⟨aGive a n, aGive_ok hA n, hK, g2, p2, now28 h28 p3⟩, hG⟩
    show r2.2 = f_X5_giveOn 0 (nI n) now 14
    rw [show f_X5_giveOn 0 (nI n) now 14 = _ from p2.2.2.2.1]
    exact g2.2.2.2.2.1
  · rw [gift_no q, show f_X5_in (Int32.toInt64 x0) 1 9 = 0 from in_n q (by decide) (by decide)]
    rw [if_pos (show (0 : Int32) = 0 from rfl), if_pos (show (0 : Int32) = 0 from rfl)]
    exact ⟨rfl, ⟨a, hA, hK, hC, hM, h28⟩, hR⟩
theorem e_pay {T : TDt} (hT : TW T) {pc bc pm bm : Int32} {prc wdc kdc lkc noc rpc prm wdm kdm lkm nom rpm : Nat → Int32} (hc : CT T pc bc prc wdc kdc lkc noc rpc) (hm : CT T pm bm prm wdm kdm lkm nom rpm) {pl pd nx tk ht tm : Int32} {wi now : Nat → Int32} (hN : NW T pl pd nx tk ht tm wi now) {q1 q2 ma mn : Int32} {b0 b1 b2 b3 b4 b5 : Nat → Int32} {br : Nat → Nat → Int32} {row : Nat → Int32} (hR : RG T q1 q2 ma mn b0 b1 b2 b3 b4 b5 br row) (x0 : Int32) (u1 u2 u3 u4 u5 u6 : Int32) (bw : Nat → Int32) (ba : Nat → Nat) {rc : Int32 × Int32 × Int32 × Int32 × Int32 × Int32 × Int32 × Int32 × Int32 × Int32 × (Nat → Int32) × Int32 × Int32 × (Nat → Int32) × (Nat → Int32) × (Nat → Int32) × (Nat → Int32) × (Nat → Int32) × (Nat → Int32) × (Nat → Nat → Int32)} {rm : Int32 × Int32 × Int32 × (Nat → Int32) × (Nat → Int32)}
    (ec : rc = f_X4_pay x0 pc u1 u2 u3 u4 u5 u6 pl pd nx tk ht tm wi bw prc q1 q2 ba b0 b1 b2 b3 b4 b5 br) (em : rm = f_X5_pay x0 pm ma mn now prm row) :
    rc.1 = rm.1 ∧ NW T rc.2.2.2.2.2.2.2.1 rc.2.2.2.2.2.2.2.2.1 nx tk rc.2.2.2.2.2.2.2.2.2.1 tm wi rm.2.2.2.1 ∧ RG T rc.2.2.2.2.2.2.2.2.2.2.2.1 rc.2.2.2.2.2.2.2.2.2.2.2.2.1 rm.2.1 rm.2.2.1 rc.2.2.2.2.2.2.2.2.2.2.2.2.2.1 rc.2.2.2.2.2.2.2.2.2.2.2.2.2.2.1 rc.2.2.2.2.2.2.2.2.2.2.2.2.2.2.2.1 rc.2.2.2.2.2.2.2.2.2.2.2.2.2.2.2.2.1 rc.2.2.2.2.2.2.2.2.2.2.2.2.2.2.2.2.2.1 rc.2.2.2.2.2.2.2.2.2.2.2.2.2.2.2.2.2.2.1 rc.2.2.2.2.2.2.2.2.2.2.2.2.2.2.2.2.2.2.2 rm.2.2.2.2 := by
  subst ec em
  obtain ⟨a, hA, hK, hC, hM, h28⟩ := hN
  have h6 := hT.1
  unfold f_X4_pay f_X5_pay
  simp only [lxb_y]
  have hB := c_become hT hC (w := bw) rfl
  generalize f_X2_become pl pd nx tk ht tm wi bw = r2 at hB ⊢
  rw [show f_X3_hasPlayer x0 pc = f_X3_hasPlayer x0 (nI (tnp T)) by rw [hc.1], show f_X5_isPlayer x0 pm = f_X5_isPlayer x0 (nI (tnp T)) by rw [hm.1]]
  rcases e_isP h6 x0 with ⟨p, hp, rfl, i1, i2⟩ | ⟨i1, i2⟩
  · rw [i1, i2]
    obtain ⟨g1, g2⟩ := c_pay hT hA hc hC (p := p) (by omega) rfl
    have mc := m_canPay hT (lv := 0) (by decide) hA hm hM (p := p) (by omega)
    have mc : f_X5_canPay 0 (nI p) pm now prm = if aCanPay T a p = true then 1 else 0 := mc
    have hG := hR.add hT hA hK hB hM ba rfl rfl
    rw [mc]
    generalize f_X2_payFromHat (nI p) pl pd ht pc prc = r3 at g1 g2 ⊢
    generalize f_X0_add q1 q2 r2.1 r2.2.1 r2.2.2.1 r2.2.2.2.1 r2.2.2.2.2.1 r2.2.2.2.2.2.1 ba b0 b1 b2 b3 b4 b5 br r2.2.2.2.2.2.2 = r4 at hG ⊢
    generalize f_X5_keepAct ma mn now row = k at hG ⊢
    rw [if_neg (show ¬ (1 : Int32) = 0 by decide), if_neg (show ¬ (1 : Int32) = 0 by decide)]
    by_cases c : aCanPay T a p = true
    · obtain ⟨g3, g4⟩ := g1 c
      obtain ⟨p2, p3⟩ := m_pay hT (lv := 0) (by decide) hm hM c
      have p2 : MR T (16 * 0) (aPay T a p) (f_X5_payOn 0 (nI p) now prm) := p2
      have p3 : MY (16 * 0) now (f_X5_payOn 0 (nI p) now prm) := p3
      rw [g3, if_pos c, if_neg (show ¬ (1 : Int32) = 0 by decide), if_neg (show ¬ (1 : Int32) = 0 by decide)]
      refine ⟨?_, ⟨aPay T a p, aPay_ok hA p, hK, g4, p2, now28 h28 p3⟩, hG⟩
      show r3.2.2.2 = f_X5_payOn 0 (nI p) now prm 14
      rw [show f_X5_payOn 0 (nI p) now prm 14 = _ from p2.2.2.2.1]
      exact g4.2.2.2.2.1
    · rw [g2 c, if_neg c, if_pos (show (0 : Int32) = 0 from rfl), if_pos (show (0 : Int32) = 0 from rfl)]
      exact ⟨rfl, ⟨a, hA, hK, hC, hM, h28⟩, hR⟩
  · rw [i1, i2, if_pos (show (0 : Int32) = 0 from rfl), if_pos (show (0 : Int32) = 0 from rfl)]
    exact ⟨rfl, ⟨a, hA, hK, hC, hM, h28⟩, hR⟩
theorem canRest_lt {T : TDt} {a : AS} {p : Nat} (h : aCanRest T a p = true) : p < tnp T := by
  unfold aCanRest at h
  simp at h
  exact h.1.1
theorem e_rest {T : TDt} (hT : TW T) {pc bc pm bm : Int32} {prc wdc kdc lkc noc rpc prm wdm kdm lkm nom rpm : Nat → Int32} (hc : CT T pc bc prc wdc kdc lkc noc rpc) (hm : CT T pm bm prm wdm kdm lkm nom rpm) {pl pd nx tk ht tm : Int32} {wi now : Nat → Int32} (hN : NW T pl pd nx tk ht tm wi now) {q1 q2 ma mn : Int32} {b0 b1 b2 b3 b4 b5 : Nat → Int32} {br : Nat → Nat → Int32} {row : Nat → Int32} (hR : RG T q1 q2 ma mn b0 b1 b2 b3 b4 b5 br row) (x0 : Int32) (u1 u2 u3 u4 u5 u6 : Int32) (bw : Nat → Int32) (ba : Nat → Nat) {rc : Int32 × Int32 × Int32 × Int32 × Int32 × Int32 × Int32 × Int32 × (Nat → Int32) × (Nat → Int32) × Int32 × Int32 × (Nat → Int32) × (Nat → Int32) × (Nat → Int32) × (Nat → Int32) × (Nat → Int32) × (Nat → Int32) × (Nat → Nat → Int32)} {rm : Int32 × Int32 × Int32 × (Nat → Int32) × (Nat → Int32)}
    (ec : rc = f_X4_rest x0 pc u1 u2 u3 u4 u5 u6 pl pd nx tk ht tm wi bw wdc q1 q2 ba b0 b1 b2 b3 b4 b5 br) (em : rm = f_X5_rest x0 pm ma mn now wdm row) :
    rc.1 = rm.1 ∧ NW T rc.2.2.2.2.2.2.2.1 pd nx tk ht tm rc.2.2.2.2.2.2.2.2.1 rm.2.2.2.1 ∧ RG T rc.2.2.2.2.2.2.2.2.2.2.1 rc.2.2.2.2.2.2.2.2.2.2.2.1 rm.2.1 rm.2.2.1 rc.2.2.2.2.2.2.2.2.2.2.2.2.1 rc.2.2.2.2.2.2.2.2.2.2.2.2.2.1 rc.2.2.2.2.2.2.2.2.2.2.2.2.2.2.1 rc.2.2.2.2.2.2.2.2.2.2.2.2.2.2.2.1 rc.2.2.2.2.2.2.2.2.2.2.2.2.2.2.2.2.1 rc.2.2.2.2.2.2.2.2.2.2.2.2.2.2.2.2.2.1 rc.2.2.2.2.2.2.2.2.2.2.2.2.2.2.2.2.2.2 rm.2.2.2.2 := by
  subst ec em
  obtain ⟨a, hA, hK, hC, hM, h28⟩ := hN
  have h6 := hT.1
  unfold f_X4_rest f_X5_rest
  simp only [lxb_y]
  have hB := c_become hT hC (w := bw) rfl
  generalize f_X2_become pl pd nx tk ht tm wi bw = r2 at hB ⊢
  rw [show f_X3_hasPlayer x0 pc = f_X3_hasPlayer x0 (nI (tnp T)) by rw [hc.1], show f_X5_isPlayer x0 pm = f_X5_isPlayer x0 (nI (tnp T)) by rw [hm.1]]
  rcases e_isP h6 x0 with ⟨p, hp, rfl, i1, i2⟩ | ⟨i1, i2⟩
  · rw [i1, i2]
    obtain ⟨g1, g2⟩ := c_rest hT hA hc hC (p := p) (by omega) rfl
    have mc := m_canRest hT (lv := 0) (by decide) hA hm hM (p := p) (by omega)
    have mc : f_X5_canRest 0 (nI p) pm now wdm = if aCanRest T a p = true then 1 else 0 := mc
    have hG := hR.add hT hA hK hB hM ba rfl rfl
    rw [mc]
    generalize f_X2_restPlayer (nI p) pl pd pc wdc wi = r3 at g1 g2 ⊢
    generalize f_X0_add q1 q2 r2.1 r2.2.1 r2.2.2.1 r2.2.2.2.1 r2.2.2.2.2.1 r2.2.2.2.2.2.1 ba b0 b1 b2 b3 b4 b5 br r2.2.2.2.2.2.2 = r4 at hG ⊢
    generalize f_X5_keepAct ma mn now row = k at hG ⊢
    rw [if_neg (show ¬ (1 : Int32) = 0 by decide), if_neg (show ¬ (1 : Int32) = 0 by decide)]
    by_cases c : aCanRest T a p = true
    · obtain ⟨g3, g4⟩ := g1 c
      obtain ⟨p2, p3⟩ := m_rest hT (lv := 0) (by decide) hm hM (canRest_lt c)
      have p2 : MR T (16 * 0) (aRest T a p) (f_X5_restOn 0 (nI p) now wdm) := p2
      have p3 : MY (16 * 0) now (f_X5_restOn 0 (nI p) now wdm) := p3
      rw [g3, if_pos c, if_neg (show ¬ (1 : Int32) = 0 by decide), if_neg (show ¬ (1 : Int32) = 0 by decide)]
      refine ⟨?_, ⟨aRest T a p, aRest_ok hT hA hp, hK, g4, p2, now28 h28 p3⟩, hG⟩
      show f_X2_windOf (nI p) r3.2.2 = f_X5_restOn 0 (nI p) now wdm (Int32.toNatClampNeg (6 + nI p))
      have z := (p2.1 p hp).2
      rw [show Int32.toNatClampNeg (6 + nI p) = 16 * 0 + 6 + p by rw [show (6 : Int32) = nI 6 from rfl, nI_add, nI_clamp (by omega)], z]
      unfold f_X2_windOf
      rw [lxb_y, at_in (show p < 6 by omega) (by decide)]
      exact g4.1.2 p hp
    · rw [g2 c, if_neg c, if_pos (show (0 : Int32) = 0 from rfl), if_pos (show (0 : Int32) = 0 from rfl)]
      exact ⟨rfl, ⟨a, hA, hK, hC, hM, h28⟩, hR⟩
  · rw [i1, i2, if_pos (show (0 : Int32) = 0 from rfl), if_pos (show (0 : Int32) = 0 from rfl)]
    exact ⟨rfl, ⟨a, hA, hK, hC, hM, h28⟩, hR⟩
theorem e_encore {T : TDt} (hT : TW T) {pc bc pm bm : Int32} {prc wdc kdc lkc noc rpc prm wdm kdm lkm nom rpm : Nat → Int32} (hc : CT T pc bc prc wdc kdc lkc noc rpc) (hm : CT T pm bm prm wdm kdm lkm nom rpm) {pl pd nx tk ht tm : Int32} {wi now : Nat → Int32} (hN : NW T pl pd nx tk ht tm wi now) {q1 q2 ma mn : Int32} {b0 b1 b2 b3 b4 b5 : Nat → Int32} {br : Nat → Nat → Int32} {row : Nat → Int32} (hR : RG T q1 q2 ma mn b0 b1 b2 b3 b4 b5 br row) (bw : Nat → Int32) (ba : Nat → Nat) {rc : Int32 × Int32 × Int32 × Int32 × Int32 × Int32 × Int32 × Int32 × Int32 × (Nat → Int32) × Int32 × Int32 × (Nat → Int32) × (Nat → Int32) × (Nat → Int32) × (Nat → Int32) × (Nat → Int32) × (Nat → Int32) × (Nat → Nat → Int32)} {rm : Int32 × Int32 × Int32 × (Nat → Int32) × (Nat → Int32)}
    (ec : rc = f_X4_encore pl pd nx tk ht tm wi bw bc q1 q2 ba b0 b1 b2 b3 b4 b5 br) (em : rm = f_X5_encore pm bm ma mn now row) :
    rc.1 = rm.1 ∧ NW T pl pd rc.2.2.2.2.2.2.2.1 rc.2.2.2.2.2.2.2.2.1 ht tm wi rm.2.2.2.1 ∧ RG T rc.2.2.2.2.2.2.2.2.2.2.1 rc.2.2.2.2.2.2.2.2.2.2.2.1 rm.2.1 rm.2.2.1 rc.2.2.2.2.2.2.2.2.2.2.2.2.1 rc.2.2.2.2.2.2.2.2.2.2.2.2.2.1 rc.2.2.2.2.2.2.2.2.2.2.2.2.2.2.1 rc.2.2.2.2.2.2.2.2.2.2.2.2.2.2.2.1 rc.2.2.2.2.2.2.2.2.2.2.2.2.2.2.2.2.1 rc.2.2.2.2.2.2.2.2.2.2.2.2.2.2.2.2.2.1 rc.2.2.2.2.2.2.2.2.2.2.2.2.2.2.2.2.2.2 rm.2.2.2.2 := by
  subst ec em
  obtain ⟨a, hA, hK, hC, hM, h28⟩ := hN
  have h8 := hT.2.1
  unfold f_X4_encore f_X5_encore
  simp only [lxb_y]
  have hB := c_become hT hC (w := bw) rfl
  generalize f_X2_become pl pd nx tk ht tm wi bw = r1 at hB ⊢
  obtain ⟨g1, g2⟩ := c_again hT hc hC rfl
  have hG := hR.add hT hA hK hB hM ba rfl rfl
  generalize f_X2_beginAgain nx tk bc = r2 at g1 g2 ⊢
  generalize f_X0_add q1 q2 r1.1 r1.2.1 r1.2.2.1 r1.2.2.2.1 r1.2.2.2.2.1 r1.2.2.2.2.2.1 ba b0 b1 b2 b3 b4 b5 br r1.2.2.2.2.2.2 = r3 at hG ⊢
  generalize f_X5_keepAct ma mn now row = k at hG ⊢
  by_cases c : tnb T = 0
  · rw [g2 c, if_pos (show (0 : Int32) = 0 from rfl), if_pos (show bm = 0 by rw [hm.2.1]; exact (nI_z (by omega)).mpr c)]
    exact ⟨rfl, ⟨a, hA, hK, hC, hM, h28⟩, hR⟩
  · obtain ⟨g3, g4⟩ := g1 c
    obtain ⟨p2, p3⟩ := m_begin hT (lv := 0) (by decide) hM
    have p2 : MR T (16 * 0) (aAgain a) (f_X5_beginOn 0 now) := p2
    have p3 : MY (16 * 0) now (f_X5_beginOn 0 now) := p3
    have w := m_many hT.1 (lv := 0) (by decide) p2.1 (fun p hp => ((aAgain_ok hA).1 p hp).1)
    rw [← hm.1] at w
    rw [g3, if_neg (show ¬ (1 : Int32) = 0 by decide), if_neg (show ¬ bm = 0 by rw [hm.2.1]; exact fun q => c ((nI_z (by omega)).mp q))]
    refine ⟨?_, ⟨aAgain a, aAgain_ok hA, fun _ => rfl, g4, p2, now28 h28 p3⟩, hG⟩
    show f_X2_howManyPlay pl = f_X5_howMany 0 pm (f_X5_beginOn 0 now)
    rw [show f_X5_howMany 0 pm (f_X5_beginOn 0 now) = _ from w]
    exact g4.1.1.many hT.1
