/-! shares: equal -/
theorem tb_inb : ∀ n, n < 9 → ∀ p, p < n → f_X5_in (Int32.toInt64 (nI p)) 0 (Int32.toInt64 (nI n - 1)) = 1 := by decide +kernel
theorem e_in {n : Nat} (hn : n ≤ 8) (x : Int32) : (∃ p, p < n ∧ x = nI p ∧ f_X3_hasPlayer x (nI n) = 1 ∧ f_X5_in (Int32.toInt64 x) 0 (Int32.toInt64 (nI n - 1)) = 1) ∨ (f_X3_hasPlayer x (nI n) = 0 ∧ f_X5_in (Int32.toInt64 x) 0 (Int32.toInt64 (nI n - 1)) = 0) := by
  by_cases c : ∃ p, p < n ∧ x = nI p
  · obtain ⟨p, h, rfl⟩ := c
    exact Or.inl ⟨p, h, rfl, by rw [hasP (by omega) (by omega), if_pos h], tb_inb n (by omega) p h⟩
  · refine Or.inr ⟨?_, ?_⟩
    · unfold f_X3_hasPlayer
      by_cases c1 : x < 0
      · rw [if_pos c1]
      · rw [if_neg c1]
        by_cases c2 : nI n ≤ x
        · rw [if_pos c2]
        · exfalso
          rcases rng x 0 n (by omega) (by decide) with ⟨j, _, h2, e⟩ | q | q
          · rcases Nat.lt_or_eq_of_le h2 with w | w
            · exact c ⟨j, w, e⟩
            · exact c2 (by rw [e, w]; exact nI_le (Nat.le_refl _) (by omega))
          · exact c1 q
          · exact c2 (Int32.le_of_lt q)
    · by_cases d : f_X5_in (Int32.toInt64 x) 0 (Int32.toInt64 (nI n - 1)) = 0
      · exact d
      · exact absurd (mPb rfl hn rfl d) c
theorem e_isP {n : Nat} (hn : n ≤ 6) (x : Int32) : (∃ p, p < n ∧ x = nI p ∧ f_X3_hasPlayer x (nI n) = 1 ∧ f_X5_isPlayer x (nI n) = 1) ∨ (f_X3_hasPlayer x (nI n) = 0 ∧ f_X5_isPlayer x (nI n) = 0) := e_in (by omega) x
theorem tb_hasn : ∀ k, k < 64 → ∀ p, p < 6 → f_X5_has (nI k ^^^ (-1)) (nI p) = f_X5_has (nI (63 ^^^ k)) (nI p) := by decide +kernel
theorem some_same {s s' z : Int32} {v : Nat → Int32} (e : ∀ p, p < 6 → f_X5_has s (nI p) = f_X5_has s' (nI p)) : ∀ k, k ≤ 6 → l_X5_makeSome_2 s z v k = l_X5_makeSome_2 s' z v k
  | 0, _ => rfl
  | k + 1, h => by
    rw [l_X5_makeSome_2, l_X5_makeSome_2, some_same e k (by omega)]
    unfold b_X5_makeSome_2
    rw [e k (by omega)]
theorem makeSome_same {s s' z : Int32} {n : Nat} (hn : n ≤ 6) {v : Nat → Int32} (e : ∀ p, p < 6 → f_X5_has s (nI p) = f_X5_has s' (nI p)) : f_X5_makeSome s z (nI n) v = f_X5_makeSome s' z (nI n) v := by
  unfold f_X5_makeSome
  rw [itn0 (by omega), some_same e n hn]
set_option maxRecDepth 100000 in
theorem tb_hasd : ∀ m, m < 64 → ∀ p, p < 6 → f_X5_has (nI m) (nI p) = nI (m / 2 ^ p % 2) := by decide +kernel
theorem has_01 (s k : Int32) : ∃ b, b < 2 ∧ f_X5_has s k = nI b := by
  unfold f_X5_has
  by_cases c : ((s >>> (k &&& 31)) &&& 1) = 1
  · exact ⟨1, by decide, by rw [if_pos c]; rfl⟩
  · exact ⟨0, by decide, by rw [if_neg c]; rfl⟩
theorem has_64 (s : Int32) : ∃ m, m < 64 ∧ ∀ p, p < 6 → f_X5_has s (nI p) = f_X5_has (nI m) (nI p) := by
  obtain ⟨b0, h0, e0⟩ := has_01 s (nI 0)
  obtain ⟨b1, h1, e1⟩ := has_01 s (nI 1)
  obtain ⟨b2, h2, e2⟩ := has_01 s (nI 2)
  obtain ⟨b3, h3, e3⟩ := has_01 s (nI 3)
  obtain ⟨b4, h4, e4⟩ := has_01 s (nI 4)
  obtain ⟨b5, h5, e5⟩ := has_01 s (nI 5)
  refine ⟨b0 + 2 * b1 + 4 * b2 + 8 * b3 + 16 * b4 + 32 * b5, by omega, fun p hp => ?_⟩
  rw [tb_hasd _ (by omega) p hp]
  rcases (show p = 0 ∨ p = 1 ∨ p = 2 ∨ p = 3 ∨ p = 4 ∨ p = 5 by omega) with rfl | rfl | rfl | rfl | rfl | rfl
  · rw [e0, show (b0 + 2 * b1 + 4 * b2 + 8 * b3 + 16 * b4 + 32 * b5) / 2 ^ 0 % 2 = b0 by omega]
  · rw [e1, show (b0 + 2 * b1 + 4 * b2 + 8 * b3 + 16 * b4 + 32 * b5) / 2 ^ 1 % 2 = b1 by omega]
  · rw [e2, show (b0 + 2 * b1 + 4 * b2 + 8 * b3 + 16 * b4 + 32 * b5) / 2 ^ 2 % 2 = b2 by omega]
  · rw [e3, show (b0 + 2 * b1 + 4 * b2 + 8 * b3 + 16 * b4 + 32 * b5) / 2 ^ 3 % 2 = b3 by omega]
  · rw [e4, show (b0 + 2 * b1 + 4 * b2 + 8 * b3 + 16 * b4 + 32 * b5) / 2 ^ 4 % 2 = b4 by omega]
  · rw [e5, show (b0 + 2 * b1 + 4 * b2 + 8 * b3 + 16 * b4 + 32 * b5) / 2 ^ 5 % 2 = b5 by omega]
/-- the noise of six bars when none but those of the mask may play -/
theorem m_noiseA {T : TDt} (hT : TW T) {pc bc pm bm : Int32} {prc wdc kdc lkc noc rpc prm wdm kdm lkm nom rpm : Nat → Int32} (hc : CT T pc bc prc wdc kdc lkc noc rpc) (hm : CT T pm bm prm wdm kdm lkm nom rpm) {a : AS} (hA : AW T a) {pl pd nx tk ht tm : Int32} {wi now : Nat → Int32} (hC : CM T a pl pd nx tk ht tm wi) (hM : MR T 0 a now) (h28 : 0 ≤ now 28) (s : Int32) {v : Nat → Int32} (hS : MS now v) : (∃ A, A ≤ 324 ∧ (f_X5_noiseBy s pm bm v nom kdm lkm rpm).1 = nI A) ∧ MS now (f_X5_noiseBy s pm bm v nom kdm lkm rpm).2 := by
  obtain ⟨l1, l2⟩ := m_lay hT (hM.low hT hS.1)
  obtain ⟨m, m1, m2⟩ := has_64 (s ^^^ (-1))
  obtain ⟨s1, s2⟩ := m_some hT l1 (s := m) (z := 1) m1
  rw [← makeSome_same (z := nI 1) hT.1 (v := f_X5_layTrial v) m2, ← hm.1, show nI 1 = (1 : Int32) from rfl] at s1 s2
  have hA2 : AW T (aPaySet a m) := aPaySet_ok hA m
  obtain ⟨g1, g2, g3⟩ := m_go hT hA2 hm s1 (n := 6) (by decide) rfl
  unfold f_X5_noiseBy
  rw [lxb_y, lxb_y, lxb_y]
  exact ⟨⟨_, aSum_le hT (aPaySet a m) 6, g1⟩, hS.y ((l2.trans s2).trans g3) (g2.b28 hT (aGo_ok hA2 6))⟩
def aOff (T : TDt) (k : Nat) : Nat := (2 ^ tnp T - 1) &&& (63 ^^^ k)
def aNo (T : TDt) (a : AS) (k : Nat) : Nat := aSum T (aPaySet a (aOff T k)) 6
set_option maxRecDepth 100000 in
theorem tb_off : ∀ n, n < 7 → ∀ k, k < 64 → ((2 ^ n - 1) &&& (63 ^^^ k)) < 64 ∧ ∀ p, p < 6 → (((2 ^ n - 1) &&& (63 ^^^ k)).testBit p = true → p < n) ∧ (p < n → ((2 ^ n - 1) &&& (63 ^^^ k)).testBit p = (63 ^^^ k).testBit p) := by decide +kernel
theorem tb_every : ∀ n, n < 7 → f_X3_everybody (nI n) = nI (2 ^ n - 1) ∧ itn1 0 (nI (2 ^ n - 1)) = 2 ^ n := by decide +kernel
theorem xor_64 {k : Nat} (h : k < 64) : 63 ^^^ k < 64 := Nat.xor_lt_two_pow (n := 6) (by decide) h
theorem m_noise {T : TDt} (hT : TW T) {pc bc pm bm : Int32} {prc wdc kdc lkc noc rpc prm wdm kdm lkm nom rpm : Nat → Int32} (hc : CT T pc bc prc wdc kdc lkc noc rpc) (hm : CT T pm bm prm wdm kdm lkm nom rpm) {a : AS} (hA : AW T a) {pl pd nx tk ht tm : Int32} {wi now : Nat → Int32} (hC : CM T a pl pd nx tk ht tm wi) (hM : MR T 0 a now) (h28 : 0 ≤ now 28) {k : Nat} (hk : k < 64) {v : Nat → Int32} (hS : MS now v) : (f_X5_noiseBy (nI k) pm bm v nom kdm lkm rpm).1 = nI (aNo T a k) ∧ MS now (f_X5_noiseBy (nI k) pm bm v nom kdm lkm rpm).2 := by
  have h6 := hT.1
  obtain ⟨l1, l2⟩ := m_lay hT (hM.low hT hS.1)
  obtain ⟨s1, s2⟩ := m_some hT l1 (s := 63 ^^^ k) (z := 1) (xor_64 hk)
  rw [← makeSome_same (z := nI 1) hT.1 (v := f_X5_layTrial v) (tb_hasn k hk), ← hm.1, show nI 1 = (1 : Int32) from rfl] at s1 s2
  obtain ⟨o1, o2⟩ := tb_off (tnp T) (by omega) k hk
  have s1 : MR T 16 (aPaySet a (aOff T k)) (f_X5_makeSome (nI k ^^^ (-1)) 1 pm (f_X5_layTrial v)) := s1.sameT (fun p hp => by
    show (if (aOff T k).testBit p = true then 1 else a.1 p) = if (63 ^^^ k).testBit p = true then 1 else a.1 p
    unfold aOff
    rw [(o2 p (by omega)).2 hp]) rfl
  have hA2 : AW T (aPaySet a (aOff T k)) := aPaySet_ok hA _
  obtain ⟨g1, g2, g3⟩ := m_go hT hA2 hm s1 (n := 6) (by decide) rfl
  unfold f_X5_noiseBy
  rw [lxb_y, lxb_y, lxb_y]
  exact ⟨g1, hS.y ((l2.trans s2).trans g3) (g2.b28 hT (aGo_ok hA2 6))⟩
theorem c_noisesL {T : TDt} (hT : TW T) {pc bc pm bm : Int32} {prc wdc kdc lkc noc rpc prm wdm kdm lkm nom rpm : Nat → Int32} (hc : CT T pc bc prc wdc kdc lkc noc rpc) (hm : CT T pm bm prm wdm kdm lkm nom rpm) {a : AS} (hA : AW T a) {pl pd nx tk ht tm : Int32} {wi now : Nat → Int32} (hC : CM T a pl pd nx tk ht tm wi) (hM : MR T 0 a now) (h28 : 0 ≤ now 28) (i0 : Int32 × Int32 × Int32 × Int32 × Int32 × Int32 × (Nat → Int32) × (Nat → Int32)) : ∀ k, k ≤ 2 ^ tnp T → ∀ j, j < k →
    (l_X4_share_24 pc bc pl pd nx tk ht tm wi noc kdc lkc rpc (nI (2 ^ tnp T - 1)) i0 k).2.2.2.2.2.2.2 j = nI (aNo T a j) := by
  intro k
  induction k with
  | zero => intro _ j h; exact absurd h (Nat.not_lt_zero _)
  | succ k ih =>
    intro hk j hj
    have h6 := hT.1
    have h2 : 2 ^ tnp T ≤ 2 ^ 6 := Nat.pow_le_pow_right (by decide) h6
    have h0 : 0 < 2 ^ tnp T := Nat.pow_pos (by decide)
    have ih := ih (by omega)
    rw [l_X4_share_24]
    generalize l_X4_share_24 pc bc pl pd nx tk ht tm wi noc kdc lkc rpc (nI (2 ^ tnp T - 1)) i0 k = p at ih ⊢
    have hk64 : k < 64 := by omega
    obtain ⟨o1, o2⟩ := tb_off (tnp T) (by omega) k hk64
    have es := (tb_sub (2 ^ tnp T - 1) (by omega) k hk64).1
    have hB := c_become hT hC (w := p.2.2.2.2.2.2.1) rfl
    unfold b_X4_share_24
    generalize f_X2_become pl pd nx tk ht tm wi p.2.2.2.2.2.2.1 = r3 at hB ⊢
    have g0 := c_payFreely hB o1 (fun q hq z => (o2 q hq).1 z) rfl
    have g1 := c_playNoise hT (aPaySet_ok hA _) hc g0 (n := 6) (by decide) rfl
    rw [lxb_y, lxb_y, lxb_y, lxb_y, es]
    have g1 := g1.1
    show f_X4_put (nI k) (f_X2_playNoise 6 (f_X2_payFreely (nI ((2 ^ tnp T - 1) &&& (63 ^^^ k))) r3.1 r3.2.1).1 (f_X2_payFreely (nI ((2 ^ tnp T - 1) &&& (63 ^^^ k))) r3.1 r3.2.1).2 r3.2.2.1 r3.2.2.2.1 r3.2.2.2.2.2.1 pc bc noc kdc r3.2.2.2.2.2.2 lkc rpc).1 64 p.2.2.2.2.2.2.2 j = nI (aNo T a j)
    rw [put_in (show k < 64 by omega) (by decide)]
    rcases Nat.lt_or_eq_of_le (show j ≤ k by omega) with w | w
    · rw [upd_n (by omega)]; exact ih j w
    · subst w
      rw [upd_s]
      exact g1
