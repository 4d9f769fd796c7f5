/-! shares: the sums -/
def fN (n c : Nat) : Nat := (if c = 0 then 1 else if c = 1 then 1 else if c = 2 then 2 else if c = 3 then 6 else if c = 4 then 24 else 120) * (if n - 1 - c = 0 then 1 else if n - 1 - c = 1 then 1 else if n - 1 - c = 2 then 2 else if n - 1 - c = 3 then 6 else if n - 1 - c = 4 then 24 else 120)
set_option maxRecDepth 100000 in
theorem tb_ord : ∀ n, n < 7 → ∀ c, c < n → nI n - 1 - nI c = nI (n - 1 - c) := by decide +kernel
set_option maxRecDepth 100000 in
theorem tb_bits : ∀ n, n < 7 → ∀ p, p < n → ∀ k, k < 2 ^ n → (k.testBit p = false → bcnt k < n) ∧ bset k p < 2 ^ n ∧ ((nI k &&& ((1 : Int32) <<< (nI p &&& 31))) = 0 ↔ k.testBit p = false) := by decide +kernel
def aShr (T : TDt) (a : AS) (p : Nat) : Nat → Int32
  | 0 => 0
  | k + 1 => if k.testBit p = true then aShr T a p k else aShr T a p k + (f_X5_factorial (nI (bcnt k)) * f_X5_factorial (nI (tnp T - 1 - bcnt k))) * (nI (aNo T a (bset k p)) - nI (aNo T a k))
theorem c_shrL {T : TDt} (hT : TW T) {pc : Int32} (ep : pc = nI (tnp T)) {a : AS} {fa : Nat → Int32} (hF : ∀ j, j < 7 → fa j = f_X5_factorial (nI j)) {r7 : Int32 × Int32 × Int32 × Int32 × Int32 × Int32 × (Nat → Int32) × (Nat → Int32)} (h7 : ∀ j, j < 2 ^ tnp T → r7.2.2.2.2.2.2.2 j = nI (aNo T a j)) {p : Nat} (hp : p < tnp T) : ∀ k, k ≤ 2 ^ tnp T → l_X4_share_93 (nI p) pc fa r7 0 k = aShr T a p k := by
  intro k
  induction k with
  | zero => intro _; rfl
  | succ k ih =>
    intro hk
    have h6 := hT.1
    have h2 : 2 ^ tnp T ≤ 2 ^ 6 := Nat.pow_le_pow_right (by decide) h6
    have ih := ih (by omega)
    rw [l_X4_share_93, aShr, ih]
    obtain ⟨t1, t2, t3⟩ := tb_bits (tnp T) (by omega) p hp k (by omega)
    obtain ⟨e1, e2, _⟩ := tb_set k (by omega) p (by omega)
    unfold b_X4_share_93
    by_cases c : k.testBit p = false
    · have t1 := t1 c
      rw [if_pos (t3.mpr c), if_neg (by rw [c]; decide), tb_cnt k (by omega), e1, ep]
      simp only [lxb_y]
      rw [tb_ord _ (by omega) _ t1, at_in (show bcnt k < 7 by omega) (by decide), at_in (show tnp T - 1 - bcnt k < 7 by omega) (by decide), at_in (show bset k p < 64 by omega) (by decide), at_in (show k < 64 by omega) (by decide), hF _ (by omega), hF _ (by omega), h7 _ t2, h7 _ (by omega)]
    · rw [if_neg (fun q => c (t3.mp q)), if_pos (by cases h : k.testBit p; exact absurd h c; rfl)]
theorem m_shrL {T : TDt} (hT : TW T) {pc bc pm bm : Int32} {prc wdc kdc lkc noc rpc prm wdm kdm lkm nom rpm : Nat → Int32} (hc : CT T pc bc prc wdc kdc lkc noc rpc) (hm : CT T pm bm prm wdm kdm lkm nom rpm) {a : AS} (hA : AW T a) {pl pd nx tk ht tm : Int32} {wi now : Nat → Int32} (hC : CM T a pl pd nx tk ht tm wi) (hM : MR T 0 a now) (h28 : 0 ≤ now 28) {p : Nat} (hp : p < tnp T) : ∀ k, k ≤ 2 ^ tnp T → (l_X5_share_15 (nI p) pm bm nom kdm lkm rpm (0, now) k).1 = aShr T a p k ∧ MS now (l_X5_share_15 (nI p) pm bm nom kdm lkm rpm (0, now) k).2 := by
  intro k
  induction k with
  | zero => intro _; exact ⟨rfl, MS.refl h28⟩
  | succ k ih =>
    intro hk
    have h6 := hT.1
    have h2 : 2 ^ tnp T ≤ 2 ^ 6 := Nat.pow_le_pow_right (by decide) h6
    obtain ⟨ih, i2⟩ := ih (by omega)
    rw [l_X5_share_15, aShr]
    generalize l_X5_share_15 (nI p) pm bm nom kdm lkm rpm (0, now) k = u at ih i2 ⊢
    obtain ⟨t1, t2, t3⟩ := tb_bits (tnp T) (by omega) p hp k (by omega)
    obtain ⟨e1, e2, _⟩ := tb_set k (by omega) p (by omega)
    unfold b_X5_share_15
    rw [tb_has k (by omega) p (by omega), lxb_y]
    by_cases c : k.testBit p = true
    · rw [if_pos c, if_neg (show ¬ (1 : Int32) = 0 by decide), if_pos c]
      exact ⟨ih, i2⟩
    · have c0 : k.testBit p = false := by cases h : k.testBit p; rfl; exact absurd h c
      have t1 := t1 c0
      rw [if_neg c, if_pos (show (0 : Int32) = 0 from rfl), if_neg c, tb_ones k (by omega), e1]
      simp only [lxb_y]
      obtain ⟨g1, g2⟩ := m_noise hT hc hm hA hC hM h28 (k := bset k p) (by omega) i2
      obtain ⟨g3, g4⟩ := m_noise hT hc hm hA hC hM h28 (k := k) (by omega) g2
      rw [g1, g3, ih, show pm - 1 - nI (bcnt k) = nI (tnp T - 1 - bcnt k) by rw [hm.1]; exact tb_ord _ (by omega) _ t1]
      exact ⟨rfl, g4⟩
theorem tb_f1 : ∀ c, c < 7 → ∃ g, g ≤ 720 ∧ f_X5_factorial (nI c) = nI g := fun c hc => by
  rcases (show c = 0 ∨ c = 1 ∨ c = 2 ∨ c = 3 ∨ c = 4 ∨ c = 5 ∨ c = 6 by omega) with rfl | rfl | rfl | rfl | rfl | rfl | rfl
  · exact ⟨1, by decide, by decide +kernel⟩
  · exact ⟨1, by decide, by decide +kernel⟩
  · exact ⟨2, by decide, by decide +kernel⟩
  · exact ⟨6, by decide, by decide +kernel⟩
  · exact ⟨24, by decide, by decide +kernel⟩
  · exact ⟨120, by decide, by decide +kernel⟩
  · exact ⟨720, by decide, by decide +kernel⟩
def f2N (n c : Nat) : Nat := if n ≤ c + 2 then 1 else if n = c + 3 then 2 else if n = c + 4 then 6 else if n = c + 5 then 24 else 120
set_option maxRecDepth 100000 in
theorem tb_f2 : ∀ n, n < 7 → ∀ c, c < 7 → f_X5_factorial (nI n - 1 - nI c) = nI (f2N n c) := by decide +kernel
theorem f2N_le (n c : Nat) : f2N n c ≤ 120 := by
  unfold f2N
  split
  · omega
  · split
    · omega
    · split
      · omega
      · split <;> omega
theorem sub_toInt {A B : Nat} (hA : A ≤ 324) (hB : B ≤ 324) : (nI A - nI B).toInt = (A : Int) - B := by
  rw [Int32.toInt_sub, nI_toInt (by omega), nI_toInt (by omega), Int.bmod_eq_of_le (by omega) (by omega)]
theorem mul_toInt {g : Nat} {d : Int32} (hg : g ≤ 86400) (h1 : -324 ≤ d.toInt) (h2 : d.toInt ≤ 324) : -27993600 ≤ (nI g * d).toInt ∧ (nI g * d).toInt ≤ 27993600 := by
  have e : (nI g).toInt = (g : Int) := nI_toInt (by omega)
  have b : -27993600 ≤ (g : Int) * d.toInt ∧ (g : Int) * d.toInt ≤ 27993600 := by
    have h3 : ((g : Int) * d.toInt).natAbs ≤ 86400 * 324 := by
      rw [Int.natAbs_mul]
      exact Nat.mul_le_mul (by omega) (by omega)
    omega
  rw [Int32.toInt_mul, e, Int.bmod_eq_of_le (by omega) (by omega)]
  exact b
theorem m_shrB {T : TDt} (hT : TW T) {pc bc pm bm : Int32} {prc wdc kdc lkc noc rpc prm wdm kdm lkm nom rpm : Nat → Int32} (hc : CT T pc bc prc wdc kdc lkc noc rpc) (hm : CT T pm bm prm wdm kdm lkm nom rpm) {a : AS} (hA : AW T a) {pl pd nx tk ht tm : Int32} {wi now : Nat → Int32} (hC : CM T a pl pd nx tk ht tm wi) (hM : MR T 0 a now) (h28 : 0 ≤ now 28) (x0 : Int32) : ∀ k : Nat, k ≤ 64 → ((-27993600 * (k : Int) ≤ (l_X5_share_15 x0 pm bm nom kdm lkm rpm (0, now) k).1.toInt ∧ (l_X5_share_15 x0 pm bm nom kdm lkm rpm (0, now) k).1.toInt ≤ 27993600 * (k : Int)) ∧ MS now (l_X5_share_15 x0 pm bm nom kdm lkm rpm (0, now) k).2) := by
  intro k
  induction k with
  | zero => intro _; exact ⟨⟨(by decide : -27993600 * ((0 : Nat) : Int) ≤ (0 : Int32).toInt), (by decide : (0 : Int32).toInt ≤ 27993600 * ((0 : Nat) : Int))⟩, MS.refl h28⟩
  | succ k ih =>
    intro hk
    have h6 := hT.1
    obtain ⟨⟨i1, i2⟩, i3⟩ := ih (by omega)
    rw [l_X5_share_15]
    generalize l_X5_share_15 x0 pm bm nom kdm lkm rpm (0, now) k = u at i1 i2 i3 ⊢
    unfold b_X5_share_15
    rw [lxb_y]
    by_cases c : f_X5_has (nI k) x0 = 0
    · have q1 := bcnt_le k
      rw [if_pos c, tb_ones k (by omega), show pm - 1 = nI (tnp T) - 1 by rw [hm.1]]
      simp only [lxb_y]
      rw [tb_f2 _ (by omega) _ (by omega)]
      obtain ⟨g, g1, g2⟩ := tb_f1 (bcnt k) (by omega)
      rw [g2, pk_mul]
      have f2 := f2N_le (tnp T) (bcnt k)
      have hg : g * f2N (tnp T) (bcnt k) ≤ 720 * 120 := Nat.mul_le_mul g1 f2
      obtain ⟨⟨A, a1, a2⟩, a3⟩ := m_noiseA hT hc hm hA hC hM h28 (nI k ||| ((1 : Int32) <<< (x0 &&& 31))) i3
      obtain ⟨⟨B, b1, b2⟩, b3⟩ := m_noiseA hT hc hm hA hC hM h28 (nI k) a3
      rw [a2, b2]
      have sb := sub_toInt a1 b1
      obtain ⟨m1, m2⟩ := mul_toInt (g := g * f2N (tnp T) (bcnt k)) (d := nI A - nI B) (by omega) (by omega) (by omega)
      refine ⟨?_, b3⟩
      show -27993600 * ((k + 1 : Nat) : Int) ≤ (u.1 + nI (g * f2N (tnp T) (bcnt k)) * (nI A - nI B)).toInt ∧ (u.1 + nI (g * f2N (tnp T) (bcnt k)) * (nI A - nI B)).toInt ≤ 27993600 * ((k + 1 : Nat) : Int)
      rw [Int32.toInt_add, Int.bmod_eq_of_le (by omega) (by omega)]
      constructor <;> omega
    · rw [if_neg c]
      dsimp only
      exact ⟨⟨by omega, by omega⟩, i3⟩
theorem m_shrsum {T : TDt} (hT : TW T) {pc bc pm bm : Int32} {prc wdc kdc lkc noc rpc prm wdm kdm lkm nom rpm : Nat → Int32} (hc : CT T pc bc prc wdc kdc lkc noc rpc) (hm : CT T pm bm prm wdm kdm lkm nom rpm) {a : AS} (hA : AW T a) {pl pd nx tk ht tm : Int32} {wi now : Nat → Int32} (hC : CM T a pl pd nx tk ht tm wi) (hM : MR T 0 a now) (h28 : 0 ≤ now 28) (x0 : Int32) {v : Int32 × (Nat → Int32)} (ev : v = l_X5_share_15 x0 pm bm nom kdm lkm rpm (0, now) (itn 0 (1 <<< (pm &&& 31)))) : -2147483648 < (Int32.toInt v.1) := by
  have h6 := hT.1
  have h2 : 2 ^ tnp T ≤ 2 ^ 6 := Nat.pow_le_pow_right (by decide) h6
  rw [show itn 0 ((1 : Int32) <<< (pm &&& 31)) = 2 ^ tnp T by rw [hm.1]; exact tb_pow2 _ (by omega)] at ev
  have := (m_shrB hT hc hm hA hC hM h28 x0 (2 ^ tnp T) h2).1
  rw [ev]
  generalize (l_X5_share_15 x0 pm bm nom kdm lkm rpm (0, now) (2 ^ tnp T)).1.toInt = z at this ⊢
  generalize 2 ^ tnp T = w at h2 this ⊢
  omega
theorem tb_fac : ∀ n, n < 7 → 0 < (f_X5_factorial (nI n)).toInt ∧ (f_X5_factorial (nI n)).toInt ≤ 720 := by decide +kernel
theorem e_share {T : TDt} (hT : TW T) {pc bc pm bm : Int32} {prc wdc kdc lkc noc rpc prm wdm kdm lkm nom rpm : Nat → Int32} (hc : CT T pc bc prc wdc kdc lkc noc rpc) (hm : CT T pm bm prm wdm kdm lkm nom rpm) {a : AS} (hA : AW T a) {pl pd nx tk ht tm : Int32} {wi now : Nat → Int32} (hC : CM T a pl pd nx tk ht tm wi) (hM : MR T 0 a now) (h28 : 0 ≤ now 28) {fa : Nat → Int32} (hF : ∀ j, j < 7 → fa j = f_X5_factorial (nI j)) (x0 x1 : Int32) (w1 w2 w3 w4 w5 w6 : Int32) (ww wn : Nat → Int32) {rc : Int32 × Int32 × Int32 × Int32 × Int32 × Int32 × Int32 × (Nat → Int32) × (Nat → Int32)} {rm : Int32 × (Nat → Int32)}
    (ec : rc = f_X4_share x0 x1 pc bc w1 w2 w3 w4 w5 w6 pl pd nx tk ht tm wi ww noc kdc lkc rpc wn fa) (em : rm = f_X5_share x0 x1 pm bm now nom kdm lkm rpm) : rc.1 = rm.1 ∧ MS now rm.2 := by
  subst ec em
  have h6 := hT.1
  have h2 : 2 ^ tnp T ≤ 2 ^ 6 := Nat.pow_le_pow_right (by decide) h6
  unfold f_X4_share f_X5_share
  simp only [lxb_y]
  rw [show f_X3_hasPlayer x0 pc = f_X3_hasPlayer x0 (nI (tnp T)) by rw [hc.1], show f_X5_isPlayer x0 pm = f_X5_isPlayer x0 (nI (tnp T)) by rw [hm.1]]
  rcases e_isP h6 x0 with ⟨p, hp, rfl, i1, i2⟩ | ⟨i1, i2⟩
  · rw [i1, i2, if_neg (show ¬ (1 : Int32) = 0 by decide), if_neg (show ¬ (1 : Int32) = 0 by decide)]
    obtain ⟨v1, v2⟩ := tb_every (tnp T) (by omega)
    have n7 := c_noisesL hT hc hm hA hC hM h28 (w1, w2, w3, w4, w5, w6, ww, wn) (2 ^ tnp T) (Nat.le_refl _)
    rw [show f_X3_everybody pc = nI (2 ^ tnp T - 1) by rw [hc.1]; exact v1, v2, show itn 0 ((1 : Int32) <<< (pm &&& 31)) = 2 ^ tnp T by rw [hm.1]; exact tb_pow2 _ (by omega)]
    generalize l_X4_share_24 pc bc pl pd nx tk ht tm wi noc kdc lkc rpc (nI (2 ^ tnp T - 1)) (w1, w2, w3, w4, w5, w6, ww, wn) (2 ^ tnp T) = r7 at n7 ⊢
    have s1 := c_shrL hT hc.1 hF n7 hp (2 ^ tnp T) (Nat.le_refl _)
    obtain ⟨s2, s3⟩ := m_shrL hT hc hm hA hC hM h28 hp (2 ^ tnp T) (Nat.le_refl _)
    have s4 := m_shrsum hT hc hm hA hC hM h28 (nI p) rfl
    rw [show itn 0 ((1 : Int32) <<< (pm &&& 31)) = 2 ^ tnp T by rw [hm.1]; exact tb_pow2 _ (by omega)] at s4
    generalize l_X5_share_15 (nI p) pm bm nom kdm lkm rpm (0, now) (2 ^ tnp T) = r12 at s2 s3 s4 ⊢
    rw [s1, show f_X4_at pc 7 fa = f_X5_factorial pm by rw [hc.1, hm.1, at_in (show tnp T < 7 by omega) (by decide)]; exact hF _ (by omega), ← s2]
    obtain ⟨t1, t2⟩ := tb_fac (tnp T) (by omega)
    rw [← hm.1] at t1 t2
    obtain ⟨b, hb, eb⟩ := mNat (x := f_X5_factorial pm) (N := 721) (by omega) (by omega) (by omega)
    have hb0 : 0 < b := by
      rcases Nat.eq_zero_or_pos b with q | q
      · rw [eb, q] at t1; exact absurd t1 (by decide)
      · exact q
    have fr := e_frac (x0 := r12.1) (x1 := f_X5_factorial pm) (x2 := x1) (b := b) s4 eb hb0 (by omega)
    rw [fr]
    by_cases c : x1 = 0
    · rw [if_pos c, if_pos c]; exact ⟨rfl, s3⟩
    · rw [if_neg c, if_neg c]; exact ⟨rfl, s3⟩
  · rw [i1, i2, if_pos (show (0 : Int32) = 0 from rfl), if_pos (show (0 : Int32) = 0 from rfl)]
    exact ⟨rfl, MS.refl h28⟩
