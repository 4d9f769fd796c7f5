/-! strings: class and model -/
theorem c_strL {T : TDt} (hT : TW T) {pc bc pm bm : Int32} {prc wdc kdc lkc noc rpc prm wdm kdm lkm nom rpm : Nat → Int32} (hc : CT T pc bc prc wdc kdc lkc noc rpc) (hm : CT T pm bm prm wdm kdm lkm nom rpm) {a : AS} (hA : AW T a) {pl pd nx tk ht tm : Int32} {wi now : Nat → Int32} (hC : CM T a pl pd nx tk ht tm wi) (hM : MR T 0 a now) (h28 : 0 ≤ now 28) {n x : Nat} (hn : n < 2 ^ 31) (hx : x < 11) (i0 : Int32 × Int32 × Int32 × Int32 × Int32 × Int32 × Int32 × (Nat → Int32)) (h0 : i0.1 = 0) {r1 : Int32} (e1 : r1 = nI (bcnt (aWho a.1 0 (tnp T)))) : ∀ k, k ≤ 64 →
    (l_X4_strings_38 (nI n) (nI x) pl pd nx tk ht tm wi pc bc noc kdc lkc rpc r1 i0 k).1 = nI (strN T a n x k) := by
  intro k
  induction k with
  | zero => intro _; exact h0
  | succ k ih =>
    intro hk
    have ih := ih (by omega)
    rw [l_X4_strings_38, strN]
    generalize l_X4_strings_38 (nI n) (nI x) pl pd nx tk ht tm wi pc bc noc kdc lkc rpc r1 i0 k = p at ih ⊢
    have hk64 : k < 64 := by omega
    have hw := aWho64 a.1 0 hT.1
    have q1 := bcnt_le k
    have q2 := bcnt_le (aWho a.1 0 (tnp T))
    unfold b_X4_strings_38
    rw [c_sub hT hC.1.1 hk64, lxb_y]
    by_cases c1 : aSub T a k = true
    · rw [if_pos c1, if_neg (show ¬ (1 : Int32) = 0 by decide)]
      have hB := c_become hT hC (w := p.2.2.2.2.2.2.2) rfl
      generalize f_X2_become pl pd nx tk ht tm wi p.2.2.2.2.2.2.2 = r3 at hB ⊢
      have g0 := c_tireSet hB hk64 (fun p hp q => (aSub_bit c1 p (by have := hT.1; omega) q).2)
      have g1 := c_playBars hT (aTireSet_ok hA k) hc g0 hn rfl
      rw [lxb_y, lxb_y, lxb_y]
      generalize f_X2_playBars (nI n) (f_X2_tire (nI k) r3.1) r3.2.1 r3.2.2.1 r3.2.2.2.1 r3.2.2.2.2.2.1 pc bc noc kdc r3.2.2.2.2.2.2 lkc rpc = r5 at g1 ⊢
      have g2 := c_silent hT (aGo_ok (aTireSet_ok hA k) n) g1.1.1 g1.2.2.1
      rw [hc.2.1, lxb_y, g2]
      by_cases c2 : aSilent T (aGo T (aTireSet a k) n) = true
      · have c := tb_subc _ hw k hk64 c1
        rw [if_pos c2, if_neg (show ¬ (1 : Int32) = 0 by decide), if_pos ⟨c1, c2⟩, tb_cnt k hk64, lxb_y, lxb_y, lxb_y]
        show p.1 + f_X4_power (nI x) (nI (bcnt k)) * f_X4_power (10 - nI x) (r1 - nI (bcnt k)) = _
        rw [e1, tb_wc x hx _ (by omega) _ (by omega) c, ih, nI_add]
      · rw [if_neg c2, if_pos (show (0 : Int32) = 0 from rfl), if_neg (fun q => c2 q.2)]
        exact ih
    · rw [if_neg c1, if_pos (show (0 : Int32) = 0 from rfl), if_neg (fun q => c1 q.1)]
      exact ih
theorem m_sumL {T : TDt} (hT : TW T) {pm bm : Int32} {nom kdm lkm rpm : Nat → Int32} {a : AS} (x0 : Int32) {x : Nat} (hx : x < 11) (i0 : Int32 × Int32 × (Nat → Int32)) (h0 : i0.1 = 0 ∧ i0.2.1 = 0) {r3 : Int32} (e3 : r3 = nI (aWho a.1 0 (tnp T))) : ∀ k, k ≤ 64 →
    ∃ s, s ≤ allN x (aWho a.1 0 (tnp T)) k ∧ (l_X5_strings_44 x0 (nI x) pm bm nom kdm lkm rpm r3 i0 k).1 = nI s ∧ (l_X5_strings_44 x0 (nI x) pm bm nom kdm lkm rpm r3 i0 k).2.1 = nI (allN x (aWho a.1 0 (tnp T)) k) := by
  intro k
  induction k with
  | zero => intro _; exact ⟨0, Nat.le_refl _, h0.1, h0.2⟩
  | succ k ih =>
    intro hk
    obtain ⟨s, s1, s2, s3⟩ := ih (by omega)
    rw [l_X5_strings_44, allN]
    generalize l_X5_strings_44 x0 (nI x) pm bm nom kdm lkm rpm r3 i0 k = p at s2 s3 ⊢
    have hk64 : k < 64 := by omega
    have hw := aWho64 a.1 0 hT.1
    have q1 := bcnt_le k
    have q2 := bcnt_le (aWho a.1 0 (tnp T))
    unfold b_X5_strings_44
    by_cases c1 : aSub T a k = true
    · have c := tb_subc _ hw k hk64 c1
      rw [if_pos (show (nI k &&& (r3 ^^^ (-1))) = 0 by rw [e3]; exact (sub_nI hT hk64).mpr c1), if_pos (show subB _ k = true from c1), tb_ones k hk64, e3, tb_ones _ hw]
      simp only [lxb_y]
      rw [tb_wm x hx _ (by omega) _ (by omega) c]
      generalize f_X5_goOn x0 pm bm (f_X5_makeSome (nI k) 2 pm (f_X5_layTrial p.2.2)) nom kdm lkm rpm = r13
      generalize f_X5_isSilent 1 pm bm r13.2 = r15
      rw [s2, s3]
      by_cases c2 : r15 = 0
      · rw [if_pos c2]
        exact ⟨s, by omega, Int32.add_zero _, nI_add _ _⟩
      · rw [if_neg c2]
        exact ⟨s + wN x (bcnt (aWho a.1 0 (tnp T))) (bcnt k), by omega, nI_add _ _, nI_add _ _⟩
    · rw [if_neg (show ¬ (nI k &&& (r3 ^^^ (-1))) = 0 by rw [e3]; exact fun q => c1 ((sub_nI hT hk64).mp q)), if_neg (show ¬ subB (aWho a.1 0 (tnp T)) k = true from c1)]
      exact ⟨s, by omega, s2, s3⟩
theorem m_strL {T : TDt} (hT : TW T) {pc bc pm bm : Int32} {prc wdc kdc lkc noc rpc prm wdm kdm lkm nom rpm : Nat → Int32} (hc : CT T pc bc prc wdc kdc lkc noc rpc) (hm : CT T pm bm prm wdm kdm lkm nom rpm) {a : AS} (hA : AW T a) {pl pd nx tk ht tm : Int32} {wi now : Nat → Int32} (hC : CM T a pl pd nx tk ht tm wi) (hM : MR T 0 a now) (h28 : 0 ≤ now 28) {n x : Nat} (hn : n < 2 ^ 31) (hx : x < 11) (i0 : Int32 × Int32 × (Nat → Int32)) (h0 : i0.1 = 0) (hS : MS now i0.2.2) {r3 : Int32} (e3 : r3 = nI (aWho a.1 0 (tnp T))) : ∀ k, k ≤ 64 →
    (l_X5_strings_44 (nI n) (nI x) pm bm nom kdm lkm rpm r3 i0 k).1 = nI (strN T a n x k) ∧ MS now (l_X5_strings_44 (nI n) (nI x) pm bm nom kdm lkm rpm r3 i0 k).2.2 := by
  intro k
  induction k with
  | zero => intro _; exact ⟨h0, hS⟩
  | succ k ih =>
    intro hk
    obtain ⟨ih, i2⟩ := ih (by omega)
    rw [l_X5_strings_44, strN]
    generalize l_X5_strings_44 (nI n) (nI x) pm bm nom kdm lkm rpm r3 i0 k = p at ih i2 ⊢
    have hk64 : k < 64 := by omega
    have hw := aWho64 a.1 0 hT.1
    have q1 := bcnt_le k
    have q2 := bcnt_le (aWho a.1 0 (tnp T))
    unfold b_X5_strings_44
    by_cases c1 : aSub T a k = true
    · have c := tb_subc _ hw k hk64 c1
      obtain ⟨l1, l2⟩ := m_lay hT (hM.low hT i2.1)
      obtain ⟨s1, s2⟩ := m_some hT l1 (s := k) (z := 2) hk64
      rw [← hm.1, show nI 2 = (2 : Int32) from rfl] at s1 s2
      have hA2 : AW T (aTireSet a k) := aTireSet_ok hA k
      obtain ⟨_, g2, g3⟩ := m_go hT hA2 hm s1 hn rfl
      have hs := m_silent hT (lv := 1) (by decide) (aGo_ok hA2 n) g2
      rw [← hm.1, ← hm.2.1] at hs
      have hs : f_X5_isSilent 1 pm bm (f_X5_goOn (nI n) pm bm (f_X5_makeSome (nI k) 2 pm (f_X5_layTrial p.2.2)) nom kdm lkm rpm).2 = if aSilent T (aGo T (aTireSet a k) n) = true then 1 else 0 := hs
      have ms := i2.y ((l2.trans s2).trans g3) (g2.b28 hT (aGo_ok hA2 n))
      rw [if_pos (show (nI k &&& (r3 ^^^ (-1))) = 0 by rw [e3]; exact (sub_nI hT hk64).mpr c1), tb_ones k hk64, e3, tb_ones _ hw]
      simp only [lxb_y]
      rw [tb_wm x hx _ (by omega) _ (by omega) c, hs, ih]
      by_cases c2 : aSilent T (aGo T (aTireSet a k) n) = true
      · rw [if_pos c2, if_neg (show ¬ (1 : Int32) = 0 by decide), if_pos ⟨c1, c2⟩, nI_add]
        exact ⟨rfl, ms⟩
      · rw [if_neg c2, if_pos (show (0 : Int32) = 0 from rfl), if_neg (fun q => c2 q.2)]
        exact ⟨Int32.add_zero _, ms⟩
    · rw [if_neg (show ¬ (nI k &&& (r3 ^^^ (-1))) = 0 by rw [e3]; exact fun q => c1 ((sub_nI hT hk64).mp q)), if_neg (fun q => c1 q.1)]
      exact ⟨ih, i2⟩
theorem p10_le {m : Nat} (h : m ≤ 6) : 10 ^ m ≤ 1000000 := Nat.pow_le_pow_right (n := 10) (by decide) h
theorem m_strsum {T : TDt} (hT : TW T) {pm bm : Int32} {nom kdm lkm rpm : Nat → Int32} (em : pm = nI (tnp T)) {a : AS} (x0 : Int32) {x : Nat} (hx : x < 11) {now : Nat → Int32} {r3 : Int32} (e3 : r3 = nI (aWho a.1 0 (tnp T))) {v : Int32 × Int32 × (Nat → Int32)} (ev : v = l_X5_strings_44 x0 (nI x) pm bm nom kdm lkm rpm r3 (0, 0, now) (itn 0 (1 <<< (pm &&& 31)))) : (-2147483648 < (Int32.toInt v.1) ∧ 0 < (Int32.toInt v.2.1)) ∧ v.2.1 = nI (10 ^ bcnt (aWho a.1 0 (tnp T))) := by
  have h6 := hT.1
  have h2 : 2 ^ tnp T ≤ 2 ^ 6 := Nat.pow_le_pow_right (by decide) h6
  have h0 : 0 < 10 ^ bcnt (aWho a.1 0 (tnp T)) := Nat.pow_pos (by decide)
  have h1 := p10_le (bcnt_le (aWho a.1 0 (tnp T)))
  rw [show itn 0 ((1 : Int32) <<< (pm &&& 31)) = 2 ^ tnp T by rw [em]; exact tb_pow2 _ (by omega)] at ev
  obtain ⟨s, s1, s2, s3⟩ := m_sumL hT (a := a) (pm := pm) (bm := bm) (nom := nom) (kdm := kdm) (lkm := lkm) (rpm := rpm) x0 hx (0, 0, now) ⟨rfl, rfl⟩ e3 (2 ^ tnp T) h2
  have f := allN_far (x := x) (show tnp T < 7 by omega) (aWho_lt a.1 0 (tnp T)) (64 - 2 ^ tnp T) (by omega)
  rw [show 2 ^ tnp T + (64 - 2 ^ tnp T) = 64 by omega, tb_all x hx _ (aWho64 a.1 0 hT.1)] at f
  rw [← f] at s1 s3
  rw [← ev] at s2 s3
  refine ⟨⟨?_, ?_⟩, s3⟩
  · rw [s2, nI_toInt (by omega)]; omega
  · rw [s3, nI_toInt (by omega)]; omega
theorem e_strings {T : TDt} (hT : TW T) {pc bc pm bm : Int32} {prc wdc kdc lkc noc rpc prm wdm kdm lkm nom rpm : Nat → Int32} (hc : CT T pc bc prc wdc kdc lkc noc rpc) (hm : CT T pm bm prm wdm kdm lkm nom rpm) {a : AS} (hA : AW T a) {pl pd nx tk ht tm : Int32} {wi now : Nat → Int32} (hC : CM T a pl pd nx tk ht tm wi) (hM : MR T 0 a now) (h28 : 0 ≤ now 28) (x0 x1 x2 : Int32) (w1 w2 w3 w4 w5 w6 : Int32) (ww : Nat → Int32) {rc : Int32 × Int32 × Int32 × Int32 × Int32 × Int32 × Int32 × (Nat → Int32)} {rm : Int32 × (Nat → Int32)}
    (ec : rc = f_X4_strings x0 x1 x2 pl pd nx tk ht tm w1 w2 w3 w4 w5 w6 wi ww pc bc noc kdc lkc rpc) (em : rm = f_X5_strings x0 x1 x2 pm bm now nom kdm lkm rpm) : rc.1 = rm.1 ∧ MS now rm.2 := by
  subst ec em
  have h6 := hT.1
  have h2 : 2 ^ tnp T ≤ 2 ^ 6 := Nat.pow_le_pow_right (by decide) h6
  have hw := aWho64 a.1 0 hT.1
  have q2 := bcnt_le (aWho a.1 0 (tnp T))
  unfold f_X4_strings f_X5_strings
  simp only [lxb_y]
  rcases rng x0 0 9 (by decide) (by decide) with ⟨n, _, n4, rfl⟩ | q
  · rw [show f_X5_in (Int32.toInt64 (nI n)) 0 9 = 1 from in_y (Nat.zero_le _) n4 (by decide), if_neg (nI_pos (show n < 2 ^ 31 by omega)), if_neg (show ¬ (9 : Int32) < nI n from nI_nlt (a := 9) (b := n) n4 (by decide)), if_neg (show ¬ (1 : Int32) = 0 by decide)]
    rcases rng x1 0 10 (by decide) (by decide) with ⟨x, _, x4, rfl⟩ | q
    · rw [show f_X5_in (Int32.toInt64 (nI x)) 0 10 = 1 from in_y (Nat.zero_le _) x4 (by decide), if_neg (nI_pos (show x < 2 ^ 31 by omega)), if_pos (show nI x ≤ (10 : Int32) from nI_le (b := 10) x4 (by decide)), if_neg (show ¬ (1 : Int32) = 0 by decide)]
      have w := m_who h6 (lv := 0) (by decide) hM.1 (fun p hp => (hA.1 p hp).1) (s := 0) (by decide)
      rw [← hm.1] at w
      have w : f_X5_whoIs 0 0 pm now = nI (aWho a.1 0 (tnp T)) := w
      have wc : f_X2_howManyPlay pl = nI (bcnt (aWho a.1 0 (tnp T))) := by
        unfold f_X2_howManyPlay
        rw [lxb_y, hC.1.1.who hT.1, tb_cnt _ hw]
      have g1 := c_strL hT hc hm hA hC hM h28 (n := n) (by omega) (show x < 11 by omega) (0, w1, w2, w3, w4, w5, w6, ww) rfl wc 64 (Nat.le_refl _)
      obtain ⟨g2, g3⟩ := m_strL hT hc hm hA hC hM h28 (n := n) (by omega) (show x < 11 by omega) (0, 0, now) rfl (MS.refl h28) w (2 ^ tnp T) h2
      have f := strN_far hT (a := a) (n := n) (x := x) (64 - 2 ^ tnp T) (by omega)
      rw [show 2 ^ tnp T + (64 - 2 ^ tnp T) = 64 by omega] at f
      obtain ⟨⟨z1, z2⟩, z3⟩ := m_strsum hT hm.1 (nI n) (show x < 11 by omega) (now := now) (bm := bm) (nom := nom) (kdm := kdm) (lkm := lkm) (rpm := rpm) w rfl
      have ei : itn 0 ((1 : Int32) <<< (pm &&& 31)) = 2 ^ tnp T := by rw [hm.1]; exact tb_pow2 _ (by omega)
      rw [ei] at z1 z2 z3
      rw [ei, show itn 0 64 = 64 by decide +kernel]
      generalize l_X4_strings_38 (nI n) (nI x) pl pd nx tk ht tm wi pc bc noc kdc lkc rpc (f_X2_howManyPlay pl) (0, w1, w2, w3, w4, w5, w6, ww) 64 = p at g1 ⊢
      generalize l_X5_strings_44 (nI n) (nI x) pm bm nom kdm lkm rpm (f_X5_whoIs 0 0 pm now) (0, 0, now) (2 ^ tnp T) = u at g2 g3 z1 z2 z3 ⊢
      have e12 : p.1 = u.1 := by rw [g1, g2, f]
      have fr := e_frac (x0 := p.1) (x1 := f_X4_power 10 (f_X2_howManyPlay pl)) (x2 := x2) (b := 10 ^ bcnt (aWho a.1 0 (tnp T))) (by rw [e12]; exact z1) (by rw [wc]; exact tb_10 _ (by omega)) (Nat.pow_pos (by decide)) (Nat.lt_of_le_of_lt (p10_le q2) (by decide))
      have e10 : f_X4_power 10 (f_X2_howManyPlay pl) = u.2.1 := by rw [wc, z3]; exact tb_10 _ (by omega)
      rw [fr, e12, e10]
      by_cases c : x2 = 0
      · rw [if_pos c, if_pos c]; exact ⟨rfl, g3⟩
      · rw [if_neg c, if_neg c]; exact ⟨rfl, g3⟩
    · rw [show f_X5_in (Int32.toInt64 x1) 0 10 = 0 from in_n q (by decide) (by decide), if_pos (show (0 : Int32) = 0 from rfl)]
      refine ⟨?_, MS.refl h28⟩
      by_cases c : x1 < 0
      · rw [if_pos c]
      · have : ¬ x1 ≤ 10 := by
          rcases q with q | q
          · exact absurd q c
          · exact Int32.not_le.mpr q
        rw [if_neg c, if_neg this]
  · rw [show f_X5_in (Int32.toInt64 x0) 0 9 = 0 from in_n q (by decide) (by decide), if_pos (show (0 : Int32) = 0 from rfl)]
    refine ⟨?_, MS.refl h28⟩
    by_cases c : x0 < 0
    · rw [if_pos c]
    · have : (9 : Int32) < x0 := by
        rcases q with q | q
        · exact absurd q c
        · exact q
      rw [if_neg c, if_pos this]
