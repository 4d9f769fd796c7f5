/-! small faces: equal -/
theorem mask_eq {m k : Nat} (hm : m < 64) (hk : k < 64) (h : ∀ p, p < 6 → m.testBit p = k.testBit p) : m = k := by
  apply Nat.eq_of_testBit_eq
  intro i
  by_cases c : i < 6
  · exact h i c
  · have e : 2 ^ 6 ≤ 2 ^ i := Nat.pow_le_pow_right (by decide) (by omega)
    rw [Nat.testBit_lt_two_pow (show m < 2 ^ i by omega), Nat.testBit_lt_two_pow (show k < 2 ^ i by omega)]
theorem e_player {T : TDt} (hT : TW T) {pc bc pm bm : Int32} {prc wdc kdc lkc noc rpc prm wdm kdm lkm nom rpm : Nat → Int32} (hc : CT T pc bc prc wdc kdc lkc noc rpc) (hm : CT T pm bm prm wdm kdm lkm nom rpm) {pl pd nx tk ht tm : Int32} {wi now : Nat → Int32} (hN : NW T pl pd nx tk ht tm wi now) (x0 x1 : Int32) : f_X4_player x0 x1 pc prc pl pd wi kdc lkc = f_X5_player x0 x1 pm prm now kdm lkm := by
  obtain ⟨a, hA, hK, hC, hM, h28⟩ := hN
  have h6 := hT.1
  unfold f_X4_player f_X5_player
  rw [show f_X3_hasPlayer x0 pc = f_X3_hasPlayer x0 (nI (tnp T)) by rw [hc.1], show f_X5_isPlayer x0 pm = f_X5_isPlayer x0 (nI (tnp T)) by rw [hm.1]]
  rcases e_isP h6 x0 with ⟨p, hp, rfl, i1, i2⟩ | ⟨i1, i2⟩
  · rw [i1, i2]
    simp only [lxb_y]
    obtain ⟨m1, m2⟩ := hM.1 p hp
    obtain ⟨a1, a2⟩ := hA.1 p hp
    rw [if_neg (show ¬ (1 : Int32) = 0 by decide), if_neg (show ¬ (1 : Int32) = 0 by decide), mAk (show p < 16 by omega), show Int32.toNatClampNeg (6 + nI p) = 0 + 6 + p by rw [show (6 : Int32) = nI 6 from rfl, nI_add, nI_clamp (by omega)], m2, show now p = nI (a.1 p) by rw [← m1]; congr 1; omega]
    rw [at_in (show p < 6 by omega) (by decide), at_in (show p < 6 by omega) (by decide), at_in (show p < 6 by omega) (by decide), (hc.2.2.1 p hp).1, (hc.2.2.1 p hp).2.2.1, (hc.2.2.1 p hp).2.2.2, (hm.2.2.1 p hp).1, (hm.2.2.1 p hp).2.2.1, (hm.2.2.1 p hp).2.2.2, hC.1.1.play (by omega), hC.2.1.paid (by omega)]
    unfold f_X2_windOf
    rw [lxb_y, at_in (show p < 6 by omega) (by decide), hC.1.2 p hp]
    have e4 : (if (if p < tnp T ∧ a.1 p = 0 then (1 : Int32) else 0) = 0 then (if (if p < tnp T ∧ a.1 p = 1 then (1 : Int32) else 0) = 0 then (2 : Int32) else 1) else 0) = nI (a.1 p) := by
      rcases (show a.1 p = 0 ∨ a.1 p = 1 ∨ a.1 p = 2 by omega) with q | q | q
      · simp [hp, q]; rfl
      · simp [hp, q]; rfl
      · simp [q]; rfl
    exact (congrArg (fun z => if x1 = 0 then nI (tpr T p) else if x1 = 1 then nI (a.2.1 p) else if x1 = 2 then nI (tkd T p) else if x1 = 3 then nI (tlk T p) else if x1 = 4 then z else (-2)) e4)
  · simp only [lxb_y]
    rw [i1, i2, if_pos (show (0 : Int32) = 0 from rfl), if_pos (show (0 : Int32) = 0 from rfl)]
theorem and_01 (y : Int32) : y &&& 1 = 0 ∨ y &&& 1 = 1 := by
  have h : (y &&& 1).toBitVec.toNat = y.toBitVec.toNat % 2 := by
    rw [Int32.toBitVec_and, BitVec.toNat_and]
    exact Nat.and_one_is_mod _
  rcases Nat.mod_two_eq_zero_or_one y.toBitVec.toNat with q | q
  · left; apply Int32.toBitVec_inj.mp; apply BitVec.eq_of_toNat_eq; rw [h, q]; rfl
  · right; apply Int32.toBitVec_inj.mp; apply BitVec.eq_of_toNat_eq; rw [h, q]; rfl
theorem e_score {T : TDt} (hT : TW T) {pc bc pm bm : Int32} {prc wdc kdc lkc noc rpc prm wdm kdm lkm nom rpm : Nat → Int32} (hc : CT T pc bc prc wdc kdc lkc noc rpc) (hm : CT T pm bm prm wdm kdm lkm nom rpm) {pl pd nx tk ht tm : Int32} {wi now : Nat → Int32} (hN : NW T pl pd nx tk ht tm wi now) (x0 x1 : Int32) : f_X4_score x0 x1 bc noc rpc tk = f_X5_score x0 x1 bm now rpm nom := by
  obtain ⟨a, hA, hK, hC, hM, h28⟩ := hN
  have h8 := hT.2.1
  unfold f_X4_score f_X5_score
  rw [show f_X3_hasBar x0 bc = f_X3_hasPlayer x0 (nI (tnb T)) by rw [hc.2.1]; rfl, hm.2.1]
  rcases e_in h8 x0 with ⟨p, hp, rfl, i1, i2⟩ | ⟨i1, i2⟩
  · rw [i1, i2]
    simp only [lxb_y]
    rw [if_neg (show ¬ (1 : Int32) = 0 by decide), if_neg (show ¬ (1 : Int32) = 0 by decide), mAk (show p < 16 by omega), at_in (show p < 8 by omega) (by decide), at_in (show p < 8 by omega) (by decide), (hc.2.2.2 p hp).1, (hc.2.2.2 p hp).2, (hm.2.2.2 p hp).1, (hm.2.2.2 p hp).2, show now (Int32.toNatClampNeg 13) = tk by rw [hC.2.2.2.1]; exact hM.2.2.1]
    unfold f_X2_isTaken
    have e : (if (if ((tk >>> (nI p &&& 31)) &&& 1) = 1 then (1 : Int32) else 0) = 0 then (0 : Int32) else 1) = (tk >>> (nI p &&& 31)) &&& 1 := by
      rcases and_01 (tk >>> (nI p &&& 31)) with q | q
      · rw [q]; rfl
      · rw [q]; rfl
    exact congrArg (fun z => if x1 = 0 then nI (tno T p) else if x1 = 1 then nI (trp T p) else if x1 = 2 then z else (-2)) e
  · simp only [lxb_y]
    rw [i1, i2, if_pos (show (0 : Int32) = 0 from rfl), if_pos (show (0 : Int32) = 0 from rfl)]
theorem c_tiredAll {T : TDt} (hT : TW T) {a : AS} (hA : AW T a) {pl pd pc : Int32} (ep : pc = nI (tnp T)) (h0 : BP (tnp T) a.1 0 pl) (h1 : BP (tnp T) a.1 1 pd) : f_X2_tired pl pd pc = nI (aWho a.1 2 (tnp T)) := by
  have h6 := hT.1
  have h2 : 2 ^ tnp T ≤ 2 ^ 6 := Nat.pow_le_pow_right (by decide) h6
  have h0' : 0 < 2 ^ tnp T := Nat.pow_pos (by decide)
  have w0 := aWho64 a.1 0 h6
  have w1 := aWho64 a.1 1 h6
  have w2 := aWho64 a.1 2 h6
  unfold f_X2_tired
  rw [lxb_y, show f_X3_everybody pc = nI (2 ^ tnp T - 1) by rw [ep]; exact (tb_every _ (by omega)).1, h0.who h6, h1.who h6]
  obtain ⟨t1, t2⟩ := tb_sub (2 ^ tnp T - 1) (by omega) _ w0
  obtain ⟨t3, t4⟩ := tb_sub _ t2 _ w1
  rw [t1, t3, mask_eq t4 w2 (fun p hp => ?_)]
  rw [Nat.testBit_and, Nat.testBit_and, Nat.testBit_xor, Nat.testBit_xor, tb_63 hp, aWho_bit, aWho_bit, aWho_bit, Nat.testBit_two_pow_sub_one]
  by_cases c : p < tnp T
  · have := (hA.1 p c).1
    rcases (show a.1 p = 0 ∨ a.1 p = 1 ∨ a.1 p = 2 by omega) with q | q | q
    · simp [c, q]
    · simp [c, q]
    · simp [c, q]
  · simp [c]
theorem e_count {T : TDt} (hT : TW T) {pc bc pm bm : Int32} {prc wdc kdc lkc noc rpc prm wdm kdm lkm nom rpm : Nat → Int32} (hc : CT T pc bc prc wdc kdc lkc noc rpc) (hm : CT T pm bm prm wdm kdm lkm nom rpm) {pl pd nx tk ht tm : Int32} {wi now : Nat → Int32} (hN : NW T pl pd nx tk ht tm wi now) (x0 : Int32) {lc lm qs ma hs hh : Int32} (e1 : lc = lm) (e2 : qs = ma) (e3 : hs = hh) : f_X4_count x0 lc pc bc pl pd nx tk ht tm qs hs = f_X5_count x0 pm bm lm ma hh now := by
  obtain ⟨a, hA, hK, hC, hM, h28⟩ := hN
  have h6 := hT.1
  have w0 := m_who h6 (lv := 0) (by decide) hM.1 (fun p hp => (hA.1 p hp).1) (s := 0) (by decide)
  have w1 := m_who h6 (lv := 0) (by decide) hM.1 (fun p hp => (hA.1 p hp).1) (s := 1) (by decide)
  have w2 := m_who h6 (lv := 0) (by decide) hM.1 (fun p hp => (hA.1 p hp).1) (s := 2) (by decide)
  rw [← hm.1] at w0 w1 w2
  have nb := m_come hT (lv := 0) (by decide) hA hM
  rw [← hm.1, ← hm.2.1] at nb
  have cb := c_come hT hA hC.1.1 hC.2.2.1
  rw [← hc.2.1] at cb
  unfold f_X4_count f_X5_count
  by_cases d0 : x0 = 0
  · rw [if_pos d0, if_pos d0, e1]
  by_cases d1 : x0 = 1
  · rw [if_neg d0, if_neg d0, if_pos d1, if_pos d1, hc.1, hm.1]
  by_cases d2 : x0 = 2
  · rw [if_neg d0, if_neg d0, if_neg d1, if_neg d1, if_pos d2, if_pos d2, hc.2.1, hm.2.1]
  by_cases d3 : x0 = 3
  · rw [if_neg d0, if_neg d0, if_neg d1, if_neg d1, if_neg d2, if_neg d2, if_pos d3, if_pos d3, hC.2.2.2.2.2]
    exact hM.2.2.2.2.symm
  by_cases d4 : x0 = 4
  · rw [if_neg d0, if_neg d0, if_neg d1, if_neg d1, if_neg d2, if_neg d2, if_neg d3, if_neg d3, if_pos d4, if_pos d4, hC.2.2.2.2.1]
    exact hM.2.2.2.1.symm
  by_cases d5 : x0 = 5
  · subst d5
    exact (hC.1.1.who h6).trans w0.symm
  by_cases d6 : x0 = 6
  · subst d6
    exact (hC.2.1.who h6).trans w1.symm
  by_cases d7 : x0 = 7
  · subst d7
    exact (c_tiredAll hT hA hc.1 hC.1.1 hC.2.1).trans w2.symm
  by_cases d8 : x0 = 8
  · subst d8
    exact cb.trans nb.symm
  by_cases d9 : x0 = 9
  · subst d9
    exact hC.2.2.2.1.trans hM.2.2.1.symm
  rw [if_neg d0, if_neg d0, if_neg d1, if_neg d1, if_neg d2, if_neg d2, if_neg d3, if_neg d3, if_neg d4, if_neg d4, if_neg d5, if_neg d5, if_neg d6, if_neg d6, if_neg d7, if_neg d7, if_neg d8, if_neg d8, if_neg d9, if_neg d9, e2, e3]
/-- what is heard, class and model -/
def HR (sc : Int32) (r1 r2 r3 : Nat → Int32) (sm : Int32) (s1 s2 s3 : Nat → Int32) : Prop := ∃ nh hp hb hz, HT nh hp hb hz sc r1 r2 r3 ∧ HT nh hp hb hz sm s1 s2 s3
theorem HT.more {nh : Nat} {hp hb hz : Nat → Nat} {sc : Int32} {r1 r2 r3 : Nat → Int32} (h : HT nh hp hb hz sc r1 r2 r3) (h6 : nh < 6) {p n z : Nat} (h1 : p < 6) (h2 : n ≤ 9) (h3 : z ≤ 1) : HT (nh + 1) (va_up hp nh p) (va_up hb nh n) (va_up hz nh z) (nI (nh + 1)) (upd r1 nh (nI p)) (upd r2 nh (nI n)) (upd r3 nh (nI z)) := by
  obtain ⟨e1, e2, e3⟩ := h
  refine ⟨rfl, by omega, fun i hi => ?_⟩
  by_cases c : i = nh
  · subst c
    rw [upd_s, upd_s, upd_s, va_up_self, va_up_self, va_up_self]
    exact ⟨⟨rfl, rfl, rfl⟩, h1, h2, h3⟩
  · rw [upd_n c, upd_n c, upd_n c, va_up_ne _ _ c, va_up_ne _ _ c, va_up_ne _ _ c]
    exact e3 i (by omega)
theorem e_hear {T : TDt} (hT : TW T) {pc bc pm bm : Int32} {prc wdc kdc lkc noc rpc prm wdm kdm lkm nom rpm : Nat → Int32} (hc : CT T pc bc prc wdc kdc lkc noc rpc) (hm : CT T pm bm prm wdm kdm lkm nom rpm) (x0 x1 x2 : Int32) {sc sm : Int32} {r1 r2 r3 s1 s2 s3 : Nat → Int32} (hH : HR sc r1 r2 r3 sm s1 s2 s3) {rc rm : Int32 × Int32 × (Nat → Int32) × (Nat → Int32) × (Nat → Int32)}
    (ec : rc = f_X4_hear x0 x1 x2 pc sc r1 r2 r3) (em : rm = f_X5_hear x0 x1 x2 pm sm s1 s2 s3) : rc.1 = rm.1 ∧ HR rc.2.1 rc.2.2.1 rc.2.2.2.1 rc.2.2.2.2 rm.2.1 rm.2.2.1 rm.2.2.2.1 rm.2.2.2.2 := by
  subst ec em
  have h6 := hT.1
  unfold f_X4_hear f_X5_hear
  simp only [lxb_y]
  rw [show f_X3_hasPlayer x0 pc = f_X3_hasPlayer x0 (nI (tnp T)) by rw [hc.1], show f_X5_isPlayer x0 pm = f_X5_isPlayer x0 (nI (tnp T)) by rw [hm.1]]
  rcases e_isP h6 x0 with ⟨p, hp, rfl, i1, i2⟩ | ⟨i1, i2⟩
  · rw [i1, i2, if_neg (show ¬ (1 : Int32) = 0 by decide), if_neg (show ¬ (1 : Int32) = 0 by decide)]
    rcases rng x1 0 9 (by decide) (by decide) with ⟨n, _, n4, rfl⟩ | q
    · rw [show f_X5_in (Int32.toInt64 (nI n)) 0 9 = 1 from in_y (Nat.zero_le _) n4 (by decide), if_neg (nI_pos (show n < 2 ^ 31 by omega)), if_neg (show ¬ (9 : Int32) < nI n from nI_nlt (a := 9) (b := n) n4 (by decide)), if_neg (show ¬ (1 : Int32) = 0 by decide)]
      rcases rng x2 0 1 (by decide) (by decide) with ⟨j, _, j4, rfl⟩ | q
      · rw [show f_X5_in (Int32.toInt64 (nI j)) 0 1 = 1 from in_y (Nat.zero_le _) j4 (by decide), if_neg (nI_pos (show j < 2 ^ 31 by omega)), if_pos (show nI j ≤ (1 : Int32) from nI_le (b := 1) j4 (by decide)), if_neg (show ¬ (1 : Int32) = 0 by decide)]
        obtain ⟨nh, hp', hb, hz, g1, g2⟩ := hH
        have e1 := g1.1
        have e2 := g2.1
        have n6 := g1.2.1
        subst e1 e2
        by_cases c : nh = 6
        · rw [if_neg (show ¬ nI nh < 6 by rw [c]; decide), if_pos (show nI nh = 6 by rw [c]; rfl)]
          exact ⟨rfl, nh, hp', hb, hz, g1, g2⟩
        · rw [if_pos (show nI nh < (6 : Int32) from nI_lt (b := 6) (by omega) (by decide)), if_neg (show ¬ nI nh = 6 from fun q => c ((nI_eq (show nh < 2 ^ 31 by omega) (show 6 < 2 ^ 31 by decide)).mp q))]
          unfold f_X1_add
          rw [put_in (show nh < 6 by omega) (by decide), put_in (show nh < 6 by omega) (by decide), put_in (show nh < 6 by omega) (by decide), mAk (show nh < 16 by omega), nI_1]
          exact ⟨rfl, nh + 1, _, _, _, g1.more (by omega) (show p < 6 by omega) n4 j4, g2.more (by omega) (show p < 6 by omega) n4 j4⟩
      · rw [show f_X5_in (Int32.toInt64 x2) 0 1 = 0 from in_n q (by decide) (by decide), if_pos (show (0 : Int32) = 0 from rfl)]
        by_cases c : x2 < 0
        · rw [if_pos c]; exact ⟨rfl, hH⟩
        · have : ¬ x2 ≤ 1 := by
            rcases q with q | q
            · exact absurd q c
            · exact Int32.not_le.mpr q
          rw [if_neg c, if_neg this]; exact ⟨rfl, hH⟩
    · rw [show f_X5_in (Int32.toInt64 x1) 0 9 = 0 from in_n q (by decide) (by decide), if_pos (show (0 : Int32) = 0 from rfl)]
      by_cases c : x1 < 0
      · rw [if_pos c]; exact ⟨rfl, hH⟩
      · have : (9 : Int32) < x1 := by
          rcases q with q | q
          · exact absurd q c
          · exact q
        rw [if_neg c, if_pos this]; exact ⟨rfl, hH⟩
  · rw [i1, i2, if_pos (show (0 : Int32) = 0 from rfl), if_pos (show (0 : Int32) = 0 from rfl)]
    exact ⟨rfl, hH⟩
theorem e_unhear {sc sm : Int32} {r1 r2 r3 s1 s2 s3 : Nat → Int32} (hH : HR sc r1 r2 r3 sm s1 s2 s3) : (f_X4_unhear sc).1 = (f_X5_unhear sm).1 ∧ HR (f_X4_unhear sc).2 r1 r2 r3 (f_X5_unhear sm).2 s1 s2 s3 := by
  obtain ⟨nh, hp, hb, hz, g1, g2⟩ := hH
  exact ⟨g1.1.trans g2.1.symm, 0, hp, hb, hz, ⟨rfl, by decide, fun i h => absurd h (Nat.not_lt_zero _)⟩, ⟨rfl, by decide, fun i h => absurd h (Nat.not_lt_zero _)⟩⟩
/-- the text, class and model -/
def XR (lc : Int32) (lt : Nat → Int32) (lm : Int32) (tx : Nat → Int32) : Prop := ∃ n, n ≤ 56 ∧ lc = nI n ∧ lm = nI n ∧ ∀ i, i < n → lt i = tx i
theorem e_write {lc lm : Int32} {lt tx : Nat → Int32} (hX : XR lc lt lm tx) (x0 : Int32) {rc rm : Int32 × Int32 × (Nat → Int32)} (ec : rc = f_X4_write x0 lc lt) (em : rm = f_X5_write x0 lm tx) : rc.1 = rm.1 ∧ XR rc.2.1 rc.2.2 rm.2.1 rm.2.2 := by
  subst ec em
  unfold f_X4_write f_X5_write
  simp only [lxb_y]
  rcases rng x0 0 255 (by decide) (by decide) with ⟨n, _, n4, rfl⟩ | q
  · obtain ⟨L, l1, rfl, rfl, l4⟩ := hX
    rw [show f_X5_in (Int32.toInt64 (nI n)) 0 255 = 1 from in_y (Nat.zero_le _) n4 (by decide), if_neg (nI_pos (show n < 2 ^ 31 by omega)), if_pos (show nI n ≤ (255 : Int32) from nI_le (b := 255) n4 (by decide)), if_neg (show ¬ (1 : Int32) = 0 by decide)]
    by_cases c : L = 56
    · rw [if_neg (show ¬ nI L < 56 by rw [c]; decide), if_pos (show nI L = 56 by rw [c]; rfl)]
      exact ⟨rfl, L, l1, rfl, rfl, l4⟩
    · rw [if_pos (show nI L < (56 : Int32) from nI_lt (b := 56) (by omega) (by decide)), if_neg (show ¬ nI L = 56 from fun q => c ((nI_eq (show L < 2 ^ 31 by omega) (show 56 < 2 ^ 31 by decide)).mp q)), put_in (show L < 56 by omega) (by decide), nI_clamp (show L < 2 ^ 31 by omega)]
      refine ⟨rfl, L + 1, by omega, nI_1 L, nI_1 L, fun i hi => ?_⟩
      by_cases d : i = L
      · subst d
        show upd lt i (nI n) i = upd tx i (nI n) i
        rw [upd_s, upd_s]
      · show upd lt L (nI n) i = upd tx L (nI n) i
        rw [upd_n d, upd_n d]; exact l4 i (by omega)
  · rw [show f_X5_in (Int32.toInt64 x0) 0 255 = 0 from in_n q (by decide) (by decide), if_pos (show (0 : Int32) = 0 from rfl)]
    by_cases c : x0 < 0
    · rw [if_pos c]; exact ⟨rfl, hX⟩
    · have : ¬ x0 ≤ 255 := by
        rcases q with q | q
        · exact absurd q c
        · exact Int32.not_le.mpr q
      rw [if_neg c, if_neg this]; exact ⟨rfl, hX⟩
theorem e_wipe {lc lm : Int32} {lt tx : Nat → Int32} (hX : XR lc lt lm tx) : (f_X4_wipe lc).1 = (f_X5_wipe lm).1 ∧ XR (f_X4_wipe lc).2 lt (f_X5_wipe lm).2 tx := by
  obtain ⟨L, l1, rfl, rfl, l4⟩ := hX
  exact ⟨rfl, 0, by decide, rfl, rfl, fun i h => absurd h (Nat.not_lt_zero _)⟩
/-- the slots, class and model -/
def KP (T : TDt) (ks : Int32) (k0 k1 k2 k3 k4 k5 : Nat → Int32) (kr : Nat → Nat → Int32) (ik kp : Nat → Int32) : Prop := ∃ m, m < 4 ∧ ks = nI m ∧ ∀ j, j < 2 → ik j = (if m.testBit j then 1 else 0) ∧ (m.testBit j = true → SL T k0 k1 k2 k3 k4 k5 kr kp j j)
theorem KP.nil {T : TDt} {k0 k1 k2 k3 k4 k5 : Nat → Int32} {kr : Nat → Nat → Int32} {ik kp : Nat → Int32} (h0 : ik 0 = 0) (h1 : ik 1 = 0) : KP T 0 k0 k1 k2 k3 k4 k5 kr ik kp := ⟨0, by decide, rfl, fun j hj => by
  rw [Nat.zero_testBit]
  rcases (show j = 0 ∨ j = 1 by omega) with rfl | rfl
  · exact ⟨h0, fun q => absurd q (by decide)⟩
  · exact ⟨h1, fun q => absurd q (by decide)⟩⟩
theorem keepKL {j : Nat} (hj : j < 2) (now kp : Nat → Int32) : ∀ k, k ≤ 16 → ∀ q, l_X5_keep_21 (nI j) now kp k q = if 16 * j ≤ q ∧ q < 16 * j + k then now (q - 16 * j) else kp q := by
  intro k
  induction k with
  | zero => intro _ q; rw [if_neg (by omega)]; rfl
  | succ k ih =>
    intro hk q
    have ih := ih (by omega)
    rw [l_X5_keep_21]
    unfold b_X5_keep_21
    rw [lxb_y, mA16 (by omega) (show k < 16 by omega), mAk (show k < 16 by omega)]
    by_cases c : q = 16 * j + k
    · subst c
      rw [upd_s, if_pos (by omega), Nat.add_sub_cancel_left]
    · rw [upd_n c, ih q]
      by_cases d : 16 * j ≤ q ∧ q < 16 * j + k
      · rw [if_pos d, if_pos (by omega)]
      · rw [if_neg d, if_neg (by omega)]
theorem againL {j : Nat} (hj : j < 2) (now kp : Nat → Int32) : ∀ k, k ≤ 16 → ∀ q, l_X5_again_26 (nI j) kp now k q = if q < k then kp (16 * j + q) else now q := by
  intro k
  induction k with
  | zero => intro _ q; rw [if_neg (by omega)]; rfl
  | succ k ih =>
    intro hk q
    have ih := ih (by omega)
    rw [l_X5_again_26]
    unfold b_X5_again_26
    rw [lxb_y, mA16 (by omega) (show k < 16 by omega), mAk (show k < 16 by omega)]
    by_cases c : q = k
    · subst c
      rw [upd_s, if_pos (by omega)]
    · rw [upd_n c, ih q]
      by_cases d : q < k
      · rw [if_pos d, if_pos (by omega)]
      · rw [if_neg d, if_neg (by omega)]
theorem tb_slot : ∀ m, m < 4 → ∀ j, j < 2 → (nI m ||| ((1 : Int32) <<< (nI j &&& 31))) = nI (bset m j) ∧ bset m j < 4 ∧ (((nI m >>> (nI j &&& 31)) &&& 1) = 0 ↔ m.testBit j = false) ∧ ∀ i, i < 2 → (bset m j).testBit i = (m.testBit i || decide (i = j)) := by decide +kernel
theorem mom_no {x : Int32} {n : Nat} (h : x < 0 ∨ nI n ≤ x) (f : Nat → Option Nat) : f_X4_momentAt x n f = none := by
  unfold f_X4_momentAt
  by_cases c : x < 0
  · rw [if_pos c]
  · rw [if_neg c, if_pos (by rcases h with q | q; exact absurd q c; exact q)]
theorem e_keep {T : TDt} (hT : TW T) {pl pd nx tk ht tm : Int32} {wi now : Nat → Int32} (hN : NW T pl pd nx tk ht tm wi now) {ks : Int32} {k0 k1 k2 k3 k4 k5 : Nat → Int32} {kr : Nat → Nat → Int32} {ik kp : Nat → Int32} (hP : KP T ks k0 k1 k2 k3 k4 k5 kr ik kp) (x0 : Int32) (ka : Nat → Nat) {rc : Int32 × Int32 × (Nat → Int32) × (Nat → Int32) × (Nat → Int32) × (Nat → Int32) × (Nat → Int32) × (Nat → Int32) × (Nat → Nat → Int32)} {rm : Int32 × (Nat → Int32) × (Nat → Int32)}
    (ec : rc = f_X4_keep x0 ks ka k0 k1 k2 k3 k4 k5 kr pl pd nx tk ht tm wi) (em : rm = f_X5_keep x0 ik now kp) : rc.1 = rm.1 ∧ KP T rc.2.1 rc.2.2.1 rc.2.2.2.1 rc.2.2.2.2.1 rc.2.2.2.2.2.1 rc.2.2.2.2.2.2.1 rc.2.2.2.2.2.2.2.1 rc.2.2.2.2.2.2.2.2 rm.2.1 rm.2.2 := by
  subst ec em
  unfold f_X4_keep f_X5_keep
  rcases rng x0 0 1 (by decide) (by decide) with ⟨j, _, j4, rfl⟩ | q
  · have hj : j < 2 := by omega
    obtain ⟨a, hA, hK, hC, hM, h28⟩ := hN
    obtain ⟨m, m1, m2, m3⟩ := hP
    obtain ⟨t1, t2, _, t3⟩ := tb_slot m m1 j hj
    have hB := c_become hT hC (w := kr j) rfl
    rw [show f_X5_in (Int32.toInt64 (nI j)) 0 1 = 1 from in_y (Nat.zero_le _) j4 (by decide), mom_at (by decide) hj, nI_clamp (show j < 2 ^ 31 by omega), m2, t1, show itn 0 16 = 16 by decide +kernel]
    simp only [lxb_y]
    rw [if_neg (by simp), if_neg (show ¬ (1 : Int32) = 0 by decide)]
    refine ⟨?_, bset m j, t2, rfl, fun i hi => ?_⟩
    · show tm = now (Int32.toNatClampNeg 15)
      exact hC.2.2.2.2.2.trans hM.2.2.2.2.symm
    · rw [t3 i hi]
      by_cases c : i = j
      · subst c
        refine ⟨?_, fun _ => ⟨a, hA, hK, ?_, hM.low hT (fun q hq => ?_)⟩⟩
        · show upd ik i (vp_nar .boolean 1) i = _
          rw [upd_s]; simp; rfl
        · dsimp only
          rw [va_up_self, va_up_self, va_up_self, va_up_self, va_up_self, va_up_self, va_up_self]
          exact hB
        · show l_X5_keep_21 (nI i) now kp 16 (16 * i + q) = now q
          rw [keepKL hj now kp 16 (Nat.le_refl _), if_pos (by omega), Nat.add_sub_cancel_left]
      · obtain ⟨n1, n2⟩ := m3 i hi
        refine ⟨?_, fun z => ?_⟩
        · show upd ik j (vp_nar .boolean 1) i = _
          rw [upd_n c, n1]; simp [c]
        · refine (n2 (by simpa [c] using z)).keep hT (va_up_ne _ _ c) (va_up_ne _ _ c) (va_up_ne _ _ c) (va_up_ne _ _ c) (va_up_ne _ _ c) (va_up_ne _ _ c) (va_up_ne _ _ c) (fun q hq => ?_)
          show l_X5_keep_21 (nI j) now kp 16 (16 * i + q) = kp (16 * i + q)
          rw [keepKL hj now kp 16 (Nat.le_refl _), if_neg (by omega)]
  · simp only [lxb_y]
    rw [show f_X5_in (Int32.toInt64 x0) 0 1 = 0 from in_n q (by decide) (by decide), mom_no (n := 2) (by
      rcases q with q | q
      · exact Or.inl q
      · refine Or.inr ?_
        rw [Int32.lt_iff_toInt_lt, nI_toInt (by decide)] at q
        rw [Int32.le_iff_toInt_le, nI_toInt (by decide)]
        omega), if_pos rfl, if_pos (show (0 : Int32) = 0 from rfl)]
    exact ⟨rfl, hP⟩
theorem e_again {T : TDt} (hT : TW T) {pl pd nx tk ht tm : Int32} {wi now : Nat → Int32} (hN : NW T pl pd nx tk ht tm wi now) {q1 q2 ma mn : Int32} {b0 b1 b2 b3 b4 b5 : Nat → Int32} {br : Nat → Nat → Int32} {row : Nat → Int32} (hR : RG T q1 q2 ma mn b0 b1 b2 b3 b4 b5 br row) {ks : Int32} {k0 k1 k2 k3 k4 k5 : Nat → Int32} {kr : Nat → Nat → Int32} {ik kp : Nat → Int32} (hP : KP T ks k0 k1 k2 k3 k4 k5 kr ik kp) (x0 : Int32) (ka : Nat → Nat) {rc : Int32 × Int32 × Int32 × Int32 × Int32 × Int32 × Int32 × (Nat → Int32) × Int32 × Int32} {rm : Int32 × Int32 × (Nat → Int32)}
    (ec : rc = f_X4_again x0 ks ka pl pd nx tk ht tm k0 k1 k2 k3 k4 k5 kr wi q1 q2) (em : rm = f_X5_again x0 ma ik kp now) : rc.1 = rm.1 ∧ NW T rc.2.1 rc.2.2.1 rc.2.2.2.1 rc.2.2.2.2.1 rc.2.2.2.2.2.1 rc.2.2.2.2.2.2.1 rc.2.2.2.2.2.2.2.1 rm.2.2 ∧ RG T rc.2.2.2.2.2.2.2.2.1 rc.2.2.2.2.2.2.2.2.2 rm.2.1 mn b0 b1 b2 b3 b4 b5 br row := by
  subst ec em
  unfold f_X4_again f_X5_again
  rcases rng x0 0 1 (by decide) (by decide) with ⟨j, _, j4, rfl⟩ | q
  · have hj : j < 2 := by omega
    obtain ⟨a0, hA, hK, hC, hM, h28⟩ := hN
    obtain ⟨m, m1, m2, m3⟩ := hP
    obtain ⟨_, _, t2, _⟩ := tb_slot m m1 j hj
    obtain ⟨n1, n2⟩ := m3 j hj
    rw [show f_X5_in (Int32.toInt64 (nI j)) 0 1 = 1 from in_y (Nat.zero_le _) j4 (by decide), mom_at (by decide) hj, nI_clamp (show j < 2 ^ 31 by omega), m2, n1, show itn 0 16 = 16 by decide +kernel]
    simp only [lxb_y]
    rw [if_neg (by simp), if_neg (show ¬ (1 : Int32) = 0 by decide)]
    by_cases c : m.testBit j = true
    · rw [if_neg (fun q => by rw [t2.mp q] at c; exact absurd c (by decide)), if_pos c, if_neg (show ¬ (1 : Int32) = 0 by decide)]
      obtain ⟨a, h1, h2, h3, h4⟩ := n2 c
      have hB := c_become hT h3 (w := wi) rfl
      have l : ∀ q, q < 16 → l_X5_again_26 (nI j) kp now 16 q = kp (16 * j + q) := fun q hq => by rw [againL hj now kp 16 (Nat.le_refl _), if_pos hq]
      obtain ⟨z, z1, z2⟩ := hR.mn
      refine ⟨?_, ⟨a, h1, h2, hB, h4.low hT l, ?_⟩, RG.nil z1 z2⟩
      · show k5 j = l_X5_again_26 (nI j) kp now 16 (Int32.toNatClampNeg 15)
        rw [show Int32.toNatClampNeg 15 = 15 from rfl, l 15 (by decide)]
        exact h3.2.2.2.2.2.trans h4.2.2.2.2.symm
      · show 0 ≤ l_X5_again_26 (nI j) kp now 16 28
        rw [againL hj now kp 16 (Nat.le_refl _), if_neg (by decide)]
        exact h28
    · have c0 : m.testBit j = false := by cases h : m.testBit j; rfl; exact absurd h c
      rw [if_pos (t2.mpr c0), if_neg c, if_pos (show (0 : Int32) = 0 from rfl)]
      exact ⟨rfl, ⟨a0, hA, hK, hC, hM, h28⟩, hR⟩
  · simp only [lxb_y]
    rw [show f_X5_in (Int32.toInt64 x0) 0 1 = 0 from in_n q (by decide) (by decide), mom_no (n := 2) (by
      rcases q with q | q
      · exact Or.inl q
      · refine Or.inr ?_
        rw [Int32.lt_iff_toInt_lt, nI_toInt (by decide)] at q
        rw [Int32.le_iff_toInt_le, nI_toInt (by decide)]
        omega), if_pos rfl, if_pos (show (0 : Int32) = 0 from rfl)]
    exact ⟨rfl, hN, hR⟩
