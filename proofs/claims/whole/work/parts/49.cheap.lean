/-! the cheapest hush -/
def aPrice (T : TDt) (s : Nat) : Nat → Nat
  | 0 => 0
  | k + 1 => aPrice T s k + if s.testBit k = true then tpr T k else 0
theorem aPrice_le {T : TDt} (hT : TW T) (s : Nat) : ∀ k, k ≤ tnp T → aPrice T s k ≤ 9 * k
  | 0, _ => Nat.le_refl _
  | k + 1, h => by
    have h1 := aPrice_le hT s k (by omega)
    have h2 := (hT.2.2.1 k (by omega)).1
    unfold aPrice
    split <;> omega
theorem c_priceL {T : TDt} (hT : TW T) {pr : Nat → Int32} (hp : ∀ p, p < tnp T → pr p = nI (tpr T p)) {s : Nat} (hs : s < 64) : ∀ k, k ≤ tnp T → l_X3_priceOf_4 (nI s) pr 0 k = nI (aPrice T s k)
  | 0, _ => rfl
  | k + 1, h => by
    have h6 := hT.1
    rw [l_X3_priceOf_4, c_priceL hT hp hs k (by omega)]
    dsimp only [b_X3_priceOf_4, lxb]
    rw [tb_play s hs k (by omega), at_in (show k < 6 by omega) (by decide), hp k (by omega), aPrice]
    cases s.testBit k
    · rw [if_neg (show ¬ false = true by decide), if_neg (show ¬ (0 : Int32) = 1 by decide), if_neg (show ¬ false = true by decide)]; rfl
    · rw [if_pos (show true = true from rfl), if_pos (show (1 : Int32) = 1 from rfl), if_pos (show true = true from rfl), nI_add]
theorem c_price {T : TDt} (hT : TW T) {players : Int32} {pr : Nat → Int32} (e : players = nI (tnp T)) (hp : ∀ p, p < tnp T → pr p = nI (tpr T p)) {s : Nat} (hs : s < 64) : f_X3_priceOf (nI s) players pr = nI (aPrice T s (tnp T)) := by
  have h6 := hT.1
  dsimp only [f_X3_priceOf, lxb]
  rw [e, itn0 (by omega)]
  exact c_priceL hT hp hs _ (Nat.le_refl _)
theorem m_priceL {T : TDt} (hT : TW T) {pr : Nat → Int32} (hp : ∀ p, p < tnp T → pr p = nI (tpr T p)) {s : Nat} (hs : s < 64) : ∀ k, k ≤ tnp T → l_X5_priceOf_4 (nI s) pr 0 k = nI (aPrice T s k)
  | 0, _ => rfl
  | k + 1, h => by
    have h6 := hT.1
    rw [l_X5_priceOf_4, m_priceL hT hp hs k (by omega)]
    dsimp only [b_X5_priceOf_4, lxb]
    rw [tb_has s hs k (by omega), mAk (show k < 16 by omega), hp k (by omega), aPrice]
    cases s.testBit k
    · rw [if_neg (show ¬ false = true by decide), if_pos (show (0 : Int32) = 0 from rfl), if_neg (show ¬ false = true by decide)]
      exact Int32.add_zero _
    · rw [if_pos (show true = true from rfl), if_neg (show ¬ (1 : Int32) = 0 by decide), if_pos (show true = true from rfl), nI_add]
theorem m_price {T : TDt} (hT : TW T) {players : Int32} {pr : Nat → Int32} (e : players = nI (tnp T)) (hp : ∀ p, p < tnp T → pr p = nI (tpr T p)) {s : Nat} (hs : s < 64) : f_X5_priceOf (nI s) players pr = nI (aPrice T s (tnp T)) := by
  have h6 := hT.1
  dsimp only [f_X5_priceOf, lxb]
  rw [e, itn0 (by omega)]
  exact m_priceL hT hp hs _ (Nat.le_refl _)
def aCheaper (T : TDt) (k b : Nat) : Bool := decide (aPrice T k (tnp T) < aPrice T b (tnp T)) || (decide (aPrice T k (tnp T) = aPrice T b (tnp T)) && (decide (bcnt k < bcnt b) || (decide (bcnt k = bcnt b) && decide (k < b))))
theorem bcnt_le (m : Nat) : bcnt m ≤ 6 := by
  have h : ∀ p, bit1 m p ≤ 1 := fun p => by unfold bit1; split <;> omega
  have := h 0; have := h 1; have := h 2; have := h 3; have := h 4; have := h 5
  unfold bcnt; omega
theorem cmp_nI {a b : Nat} (ha : a < 2 ^ 31) (hb : b < 2 ^ 31) : f_J6_compare (nI a) (nI b) = if a < b then (-1) else if a = b then 0 else 1 := by
  unfold f_J6_compare
  by_cases c : a < b
  · rw [if_neg (nI_ge c hb), if_pos c]
  · rw [if_pos (nI_le (by omega) ha), if_neg c]
    by_cases d : a = b
    · rw [if_pos (by rw [d]), if_pos d]
    · rw [if_neg (fun q => d ((nI_eq ha hb).mp q)), if_neg d]
theorem c_cheaper {T : TDt} (hT : TW T) {players : Int32} {pr : Nat → Int32} (e : players = nI (tnp T)) (hp : ∀ p, p < tnp T → pr p = nI (tpr T p)) {k b : Nat} (hk : k < 64) (hb : b < 64) : f_X3_isCheaper (nI k) (nI b) players pr = if aCheaper T k b = true then 1 else 0 := by
  have h6 := hT.1
  have p1 := aPrice_le hT k (tnp T) (Nat.le_refl _)
  have p2 := aPrice_le hT b (tnp T) (Nat.le_refl _)
  have q1 := bcnt_le k
  have q2 := bcnt_le b
  dsimp only [f_X3_isCheaper, lxb]
  rw [c_price hT e hp hk, c_price hT e hp hb, tb_cnt k hk, tb_cnt b hb, cmp_nI (by omega) (by omega), cmp_nI (by omega) (by omega)]
  unfold aCheaper
  by_cases c1 : aPrice T k (tnp T) < aPrice T b (tnp T)
  · rw [if_pos c1, if_neg (show ¬ (-1 : Int32) = 0 by decide), if_neg (show ¬ (0 : Int32) ≤ (-1) by decide)]; simp [c1]
  · rw [if_neg c1]
    by_cases c2 : aPrice T k (tnp T) = aPrice T b (tnp T)
    · rw [if_pos c2, if_pos (show (0 : Int32) = 0 from rfl)]
      by_cases c3 : bcnt k < bcnt b
      · rw [if_pos c3, if_neg (show ¬ (-1 : Int32) = 0 by decide), if_neg (show ¬ (0 : Int32) ≤ (-1) by decide)]; simp [c2, c3]
      · rw [if_neg c3]
        by_cases c4 : bcnt k = bcnt b
        · rw [if_pos c4, if_pos (show (0 : Int32) = 0 from rfl)]
          by_cases c5 : k < b
          · rw [if_neg (nI_ge c5 (by omega))]; simp [c2, c4, c5]
          · rw [if_pos (nI_le (by omega) (by omega))]; simp [c2, c4, c5]
        · rw [if_neg c4, if_neg (show ¬ (1 : Int32) = 0 by decide), if_pos (show (0 : Int32) ≤ 1 by decide)]; simp [c2, c3, c4]
    · rw [if_neg c2, if_neg (show ¬ (1 : Int32) = 0 by decide), if_pos (show (0 : Int32) ≤ 1 by decide)]; simp [c1, c2]
/-- a set of those who play -/
def aSub (T : TDt) (a : AS) (k : Nat) : Bool := decide (k &&& (63 ^^^ aWho a.1 0 (tnp T)) = 0)
theorem aSub_bit {T : TDt} {a : AS} {k : Nat} (h : aSub T a k = true) : ∀ p, p < 6 → k.testBit p = true → p < tnp T ∧ a.1 p = 0 := fun p hp hk => by
  unfold aSub at h
  have h := of_decide_eq_true h
  have h2 : (k &&& (63 ^^^ aWho a.1 0 (tnp T))).testBit p = false := by rw [h, Nat.zero_testBit]
  rw [Nat.testBit_and, Nat.testBit_xor, tb_63 hp, hk, aWho_bit] at h2
  simp at h2
  exact h2
set_option maxRecDepth 100000 in
theorem tb_far : ∀ n, n < 7 → ∀ w, w < 2 ^ n → ∀ k, k < 64 → 2 ^ n ≤ k → ¬ (k &&& (63 ^^^ w)) = 0 := by decide +kernel
theorem aSub_far {T : TDt} (hT : TW T) {a : AS} {k : Nat} (hk : k < 64) (h : 2 ^ tnp T ≤ k) : aSub T a k = false := decide_eq_false (tb_far _ (by have := hT.1; omega) _ (aWho_lt _ _ _) k hk h)
theorem sub_nI {T : TDt} (hT : TW T) {a : AS} {k : Nat} (hk : k < 64) : (nI k &&& (nI (aWho a.1 0 (tnp T)) ^^^ (-1))) = 0 ↔ aSub T a k = true := by
  obtain ⟨t1, t2⟩ := tb_sub k hk _ (aWho64 a.1 0 hT.1)
  rw [t1, nI_z (by omega)]
  unfold aSub
  simp
theorem c_sub {T : TDt} (hT : TW T) {a : AS} {pl : Int32} (hp : BP (tnp T) a.1 0 pl) {k : Nat} (hk : k < 64) : f_X2_isSetOfPlaying (nI k) pl = if aSub T a k = true then 1 else 0 := by
  unfold f_X2_isSetOfPlaying
  rw [hp.who hT.1]
  by_cases c : aSub T a k = true
  · rw [if_pos ((sub_nI hT hk).mpr c), if_pos c]
  · rw [if_neg (fun q => c ((sub_nI hT hk).mp q)), if_neg c]
def aHush (T : TDt) (a : AS) (n k : Nat) : Bool := aSilent T (aGo T (aPaySet a k) n)
def aBest (T : TDt) (a : AS) (n : Nat) : Nat → Nat
  | 0 => aWho a.1 0 (tnp T)
  | k + 1 => if aSub T a k = true ∧ aCheaper T k (aBest T a n k) = true ∧ aHush T a n k = true then k else aBest T a n k
theorem aBest_lt {T : TDt} (hT : TW T) (a : AS) (n : Nat) : ∀ k, k ≤ 64 → aBest T a n k < 64
  | 0, _ => aWho64 _ _ hT.1
  | k + 1, h => by
    have := aBest_lt hT a n k (by omega)
    unfold aBest
    split <;> omega
theorem aBest_far {T : TDt} (hT : TW T) (a : AS) (n : Nat) : ∀ d, 2 ^ tnp T + d ≤ 64 → aBest T a n (2 ^ tnp T + d) = aBest T a n (2 ^ tnp T)
  | 0, _ => rfl
  | d + 1, h => by
    rw [← Nat.add_assoc, aBest, if_neg (fun q => by rw [aSub_far hT (by omega) (by omega)] at q; exact absurd q.1 (by decide)), aBest_far hT a n d (by omega)]
theorem aBest_64 {T : TDt} (hT : TW T) (a : AS) (n : Nat) : aBest T a n 64 = aBest T a n (2 ^ tnp T) := by
  have h : 2 ^ tnp T ≤ 2 ^ 6 := Nat.pow_le_pow_right (by decide) hT.1
  have := aBest_far hT a n (64 - 2 ^ tnp T) (by omega)
  rwa [show 2 ^ tnp T + (64 - 2 ^ tnp T) = 64 by omega] at this
theorem c_behind {T : TDt} (hT : TW T) {pc bc pm bm : Int32} {prc wdc kdc lkc noc rpc prm wdm kdm lkm nom rpm : Nat → Int32} (hc : CT T pc bc prc wdc kdc lkc noc rpc) (hm : CT T pm bm prm wdm kdm lkm nom rpm) {a : AS} (hA : AW T a) {pl pd nx tk ht tm : Int32} {wi now : Nat → Int32} (hC : CM T a pl pd nx tk ht tm wi) (hM : MR T 0 a now) (h28 : 0 ≤ now 28) {n : Nat} (hn : n < 2 ^ 31) {k : Nat} (hk : k < 64) (hs : aSub T a k = true) (ww : Nat → Int32) : (f_X4_isSilentBehind (nI k) (nI n) pl pd nx tk ht tm wi ww pc bc noc kdc lkc rpc).1 = if aHush T a n k = true then 1 else 0 := by
  dsimp only [f_X4_isSilentBehind, lxb]
  have hB := c_become hT hC (w := ww) rfl
  have g0 := c_payFreely hB hk (fun p hp q => (aSub_bit hs p hp q).1) rfl
  have g1 := c_playBars hT (aPaySet_ok hA k) hc g0 hn rfl
  have g2 := c_silent hT (aGo_ok (aPaySet_ok hA k) n) g1.1.1 g1.2.2.1
  rw [hc.2.1]
  rw [hc.2.1] at g2
  exact g2
theorem m_hushed {T : TDt} (hT : TW T) {pc bc pm bm : Int32} {prc wdc kdc lkc noc rpc prm wdm kdm lkm nom rpm : Nat → Int32} (hc : CT T pc bc prc wdc kdc lkc noc rpc) (hm : CT T pm bm prm wdm kdm lkm nom rpm) {a : AS} (hA : AW T a) {pl pd nx tk ht tm : Int32} {wi now : Nat → Int32} (hC : CM T a pl pd nx tk ht tm wi) (hM : MR T 0 a now) (h28 : 0 ≤ now 28) {v : Nat → Int32} (hS : MS now v) {n : Nat} (hn : n < 2 ^ 31) {k : Nat} (hk : k < 64) : (f_X5_isHushed (nI k) (nI n) pm bm v nom kdm lkm rpm).1 = (if aHush T a n k = true then 1 else 0) ∧ MS now (f_X5_isHushed (nI k) (nI n) pm bm v nom kdm lkm rpm).2 := by
  obtain ⟨l1, l2⟩ := m_lay hT (hM.low hT hS.1)
  obtain ⟨s1, s2⟩ := m_some hT l1 (s := k) (z := 1) hk
  rw [← hm.1, show nI 1 = (1 : Int32) from rfl] at s1 s2
  have hA2 : AW T (aPaySet a k) := aPaySet_ok hA k
  obtain ⟨_, g2, g3⟩ := m_go hT hA2 hm s1 hn rfl
  have hs := m_silent hT (lv := 1) (by decide) (aGo_ok hA2 n) g2
  rw [← hm.1, ← hm.2.1] at hs
  dsimp only [f_X5_isHushed, lxb]
  exact ⟨hs, hS.y ((l2.trans s2).trans g3) (g2.b28 hT (aGo_ok hA2 n))⟩
