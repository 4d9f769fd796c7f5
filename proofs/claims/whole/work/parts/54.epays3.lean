/-! pays: equal, the fold -/
theorem e_paysL {T : TDt} (hT : TW T) {pc bc pm bm : Int32} {prc wdc kdc lkc noc rpc prm wdm kdm lkm nom rpm : Nat → Int32} (hc : CT T pc bc prc wdc kdc lkc noc rpc) (hm : CT T pm bm prm wdm kdm lkm nom rpm) {a : AS} (hA : AW T a) {pl pd nx tk ht tm : Int32} {wi now : Nat → Int32} (hC : CM T a pl pd nx tk ht tm wi) (hM : MR T 0 a now) (h28 : 0 ≤ now 28) {nh : Nat} {hp hb hz : Nat → Nat} {sc sm : Int32} {r1 r2 r3 s1 s2 s3 : Nat → Int32} (hH : HT nh hp hb hz sc r1 r2 r3) (hG : HT nh hp hb hz sm s1 s2 s3) (i0 : Int32 × Int32 × Int32 × Int32 × Int32 × Int32 × Int32 × Int32 × (Nat → Int32)) (e0 : i0.1 = 0 ∧ i0.2.1 = -9) {w : Int32} (ew : w = nI (aWho a.1 0 (tnp T))) : ∀ k, k ≤ 64 →
    (l_X4_pays_20 pl pd nx tk ht tm wi sc pc bc r1 r2 r3 noc kdc lkc rpc i0 k).1 = (l_X5_pays_29 pm bm sm s2 nom kdm lkm rpm s1 s3 w (0, -9, now) k).1 ∧ (l_X4_pays_20 pl pd nx tk ht tm wi sc pc bc r1 r2 r3 noc kdc lkc rpc i0 k).2.1 = (l_X5_pays_29 pm bm sm s2 nom kdm lkm rpm s1 s3 w (0, -9, now) k).2.1 ∧
    (∃ c, c ≤ k ∧ (l_X5_pays_29 pm bm sm s2 nom kdm lkm rpm s1 s3 w (0, -9, now) k).1 = nI c ∧ (c = 0 ↔ (l_X5_pays_29 pm bm sm s2 nom kdm lkm rpm s1 s3 w (0, -9, now) k).2.1 = -9)) ∧ MS now (l_X5_pays_29 pm bm sm s2 nom kdm lkm rpm s1 s3 w (0, -9, now) k).2.2 := by
  intro k
  induction k with
  | zero => intro _; exact ⟨e0.1, e0.2, ⟨0, Nat.le_refl _, rfl, by simp [l_X5_pays_29]⟩, MS.refl h28⟩
  | succ k ih =>
    intro hk
    obtain ⟨i1, i2, ⟨c, c1, c2, c3⟩, i4⟩ := ih (by omega)
    rw [l_X4_pays_20, l_X5_pays_29]
    generalize l_X4_pays_20 pl pd nx tk ht tm wi sc pc bc r1 r2 r3 noc kdc lkc rpc i0 k = p at i1 i2 ⊢
    generalize l_X5_pays_29 pm bm sm s2 nom kdm lkm rpm s1 s3 w (0, -9, now) k = q at i1 i2 c2 c3 i4 ⊢
    have hk64 : k < 64 := by omega
    unfold b_X4_pays_20 b_X5_pays_29
    rw [c_sub hT hC.1.1 hk64, lxb_y]
    by_cases c4 : aSub T a k = true
    · rw [if_pos c4, if_neg (show ¬ (1 : Int32) = 0 by decide), if_pos (show (nI k &&& (w ^^^ (-1))) = 0 by rw [ew]; exact (sub_nI hT hk64).mpr c4)]
      have g1 := c_explain hT hc hm hA hC hM h28 hH hk64 c4 p.2.2.2.2.2.2.2.2
      generalize f_X4_explainsHeard (nI k) pl pd nx tk ht tm wi p.2.2.2.2.2.2.2.2 sc pc bc r1 r2 r3 noc kdc lkc rpc = x at g1 ⊢
      obtain ⟨g2, g3⟩ := m_mayL hT hc hm hA hC hM h28 hG i4 hk64 nh (Nat.le_refl _)
      have g4 : f_X5_mayBePaid (nI k) pm bm sm q.2.2 s2 nom kdm lkm rpm s1 s3 = ((l_X5_mayBePaid_4 (nI k) pm bm s2 nom kdm lkm rpm s1 s3 (1, q.2.2) nh).1, (l_X5_mayBePaid_4 (nI k) pm bm s2 nom kdm lkm rpm s1 s3 (1, q.2.2) nh).2) := by
        have n6 := hG.2.1
        unfold f_X5_mayBePaid
        rw [hG.1, itn0 (by omega), lxb_y]
      rw [g4]
      generalize l_X5_mayBePaid_4 (nI k) pm bm s2 nom kdm lkm rpm s1 s3 (1, q.2.2) nh = y at g2 g3 ⊢
      dsimp only [lxb]
      rcases g1 with ⟨x1, x2⟩ | ⟨x1, x2⟩
      · rcases g2 with ⟨y1, y2⟩ | ⟨y1, y2⟩
        · rw [x1, y1, if_neg (show ¬ (1 : Int32) = 0 by decide), if_neg (show ¬ (1 : Int32) = 0 by decide), i1, i2]
          have hc1 : q.1 + 1 = nI (c + 1) := by rw [c2, nI_1]
          by_cases d : c = 0
          · rw [if_pos (c3.mp d), if_pos (show q.1 = 0 by rw [c2, d]; rfl)]
            exact ⟨rfl, rfl, ⟨c + 1, by omega, hc1, ⟨fun q => by omega, fun q => absurd q (mNe9 rfl (by omega))⟩⟩, g3⟩
          · rw [if_neg (fun q => d (c3.mpr q)), if_neg (show ¬ q.1 = 0 from fun q => d ((nI_z (show c < 2 ^ 31 by omega)).mp (by rw [← c2]; exact q)))]
            exact ⟨rfl, rfl, ⟨c + 1, by omega, hc1, ⟨fun q => by omega, fun q => absurd (c3.mpr q) d⟩⟩, g3⟩
        · exact absurd x2 y2
      · rcases g2 with ⟨y1, y2⟩ | ⟨y1, y2⟩
        · exact absurd y2 x2
        · rw [x1, y1, if_pos (show (0 : Int32) = 0 from rfl), if_pos (show (0 : Int32) = 0 from rfl)]
          exact ⟨i1, i2, ⟨c, by omega, c2, c3⟩, g3⟩
    · rw [if_neg c4, if_pos (show (0 : Int32) = 0 from rfl), if_neg (show ¬ (nI k &&& (w ^^^ (-1))) = 0 by rw [ew]; exact fun q => c4 ((sub_nI hT hk64).mp q))]
      exact ⟨i1, i2, ⟨c, by omega, c2, c3⟩, i4⟩
theorem c_paysF {T : TDt} (hT : TW T) {pc bc pm bm : Int32} {prc wdc kdc lkc noc rpc prm wdm kdm lkm nom rpm : Nat → Int32} (hc : CT T pc bc prc wdc kdc lkc noc rpc) (hm : CT T pm bm prm wdm kdm lkm nom rpm) {a : AS} (hA : AW T a) {pl pd nx tk ht tm : Int32} {wi now : Nat → Int32} (hC : CM T a pl pd nx tk ht tm wi) (hM : MR T 0 a now) (h28 : 0 ≤ now 28) {sc : Int32} {r1 r2 r3 : Nat → Int32} (i0 : Int32 × Int32 × Int32 × Int32 × Int32 × Int32 × Int32 × Int32 × (Nat → Int32)) : ∀ d, 2 ^ tnp T + d ≤ 64 → l_X4_pays_20 pl pd nx tk ht tm wi sc pc bc r1 r2 r3 noc kdc lkc rpc i0 (2 ^ tnp T + d) = l_X4_pays_20 pl pd nx tk ht tm wi sc pc bc r1 r2 r3 noc kdc lkc rpc i0 (2 ^ tnp T) := by
  intro d
  induction d with
  | zero => intro _; rfl
  | succ d ih =>
    intro h
    rw [← Nat.add_assoc, l_X4_pays_20, ih (by omega)]
    generalize l_X4_pays_20 pl pd nx tk ht tm wi sc pc bc r1 r2 r3 noc kdc lkc rpc i0 (2 ^ tnp T) = p
    unfold b_X4_pays_20
    rw [c_sub hT hC.1.1 (show 2 ^ tnp T + d < 64 by omega), aSub_far hT (show 2 ^ tnp T + d < 64 by omega) (by omega), if_neg (show ¬ false = true by decide), lxb_y, if_pos (show (0 : Int32) = 0 from rfl)]
theorem e_pays {T : TDt} (hT : TW T) {pc bc pm bm : Int32} {prc wdc kdc lkc noc rpc prm wdm kdm lkm nom rpm : Nat → Int32} (hc : CT T pc bc prc wdc kdc lkc noc rpc) (hm : CT T pm bm prm wdm kdm lkm nom rpm) {a : AS} (hA : AW T a) {pl pd nx tk ht tm : Int32} {wi now : Nat → Int32} (hC : CM T a pl pd nx tk ht tm wi) (hM : MR T 0 a now) (h28 : 0 ≤ now 28) {nh : Nat} {hp hb hz : Nat → Nat} {sc sm : Int32} {r1 r2 r3 s1 s2 s3 : Nat → Int32} (hH : HT nh hp hb hz sc r1 r2 r3) (hG : HT nh hp hb hz sm s1 s2 s3) (x0 : Int32) (w1 w2 w3 w4 w5 w6 : Int32) (ww : Nat → Int32) {rc : Int32 × Int32 × Int32 × Int32 × Int32 × Int32 × Int32 × (Nat → Int32)} {rm : Int32 × (Nat → Int32)}
    (ec : rc = f_X4_pays x0 pl pd nx tk ht tm w1 w2 w3 w4 w5 w6 wi ww sc pc bc r1 r2 r3 noc kdc lkc rpc) (em : rm = f_X5_pays x0 pm bm sm now s2 nom kdm lkm rpm s1 s3) : rc.1 = rm.1 ∧ MS now rm.2 := by
  subst ec em
  have h6 := hT.1
  have h2 : 2 ^ tnp T ≤ 2 ^ 6 := Nat.pow_le_pow_right (by decide) h6
  dsimp only [f_X4_pays, f_X5_pays, lxb]
  rcases rng x0 0 1 (by decide) (by decide) with ⟨j, _, j4, rfl⟩ | q
  · rw [show f_X5_in (Int32.toInt64 (nI j)) 0 1 = 1 from in_y (Nat.zero_le _) j4 (by decide), if_neg (nI_pos (show j < 2 ^ 31 by omega)), if_pos (show nI j ≤ (1 : Int32) from nI_le (b := 1) j4 (by decide)), if_neg (show ¬ (1 : Int32) = 0 by decide)]
    have w := m_who h6 (lv := 0) (by decide) hM.1 (fun p hp => (hA.1 p hp).1) (s := 0) (by decide)
    rw [← hm.1] at w
    have w : f_X5_whoIs 0 0 pm now = nI (aWho a.1 0 (tnp T)) := w
    rw [show itn 0 ((1 : Int32) <<< (pm &&& 31)) = 2 ^ tnp T by rw [hm.1]; exact tb_pow2 _ (by omega), show itn 0 64 = 64 by decide +kernel]
    have f := c_paysF hT hc hm hA hC hM h28 (sc := sc) (r1 := r1) (r2 := r2) (r3 := r3) (0, -9, w1, w2, w3, w4, w5, w6, ww) (64 - 2 ^ tnp T) (by omega)
    rw [show 2 ^ tnp T + (64 - 2 ^ tnp T) = 64 by omega] at f
    obtain ⟨g1, g2, _, g4⟩ := e_paysL hT hc hm hA hC hM h28 hH hG (0, -9, w1, w2, w3, w4, w5, w6, ww) ⟨rfl, rfl⟩ w (2 ^ tnp T) h2
    rw [f]
    by_cases c : nI j = 0
    · rw [if_pos c, if_pos c]; exact ⟨g1, g4⟩
    · rw [if_neg c, if_neg c]; exact ⟨g2, g4⟩
  · rw [show f_X5_in (Int32.toInt64 x0) 0 1 = 0 from in_n q (by decide) (by decide), if_pos (show (0 : Int32) = 0 from rfl)]
    refine ⟨?_, MS.refl h28⟩
    by_cases c : x0 < 0
    · rw [if_pos c]
    · have : ¬ x0 ≤ 1 := by
        rcases q with q | q
        · exact absurd q c
        · exact Int32.not_le.mpr q
      rw [if_neg c, if_neg this]
