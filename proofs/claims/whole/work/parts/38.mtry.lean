/-! trials: bars in a row, some made paid or tired, gifts, pay, rest, again, things tried -/
theorem MR.sameT {T : TDt} {b : Nat} {a a' : AS} {v : Nat → Int32} (h : MR T b a v) (e : ∀ p, p < tnp T → a'.1 p = a.1 p) (e2 : a'.2 = a.2) : MR T b a' v := by
  obtain ⟨h1, h2⟩ := h
  rw [show a' = (a'.1, a.2) by rw [← e2]]
  exact ⟨fun p hp => by rw [show ((a'.1, a.2).1, (a'.1, a.2).2.1).1 p = a.1 p from e p hp]; exact h1 p hp, h2⟩
theorem layL (v : Nat → Int32) : ∀ k, k ≤ 16 → ∀ q, l_X5_layTrial_2 v k q = if 16 ≤ q ∧ q < 16 + k then v (q - 16) else v q
  | 0, _, q => by rw [if_neg (by omega)]; rfl
  | k + 1, hk, q => by
    have ih := layL v k (by omega)
    have e1 : Int32.toNatClampNeg (16 + nI k) = 16 + k := by rw [show (16 : Int32) = nI 16 from rfl, nI_add, nI_clamp (by omega)]
    rw [l_X5_layTrial_2]
    dsimp only [b_X5_layTrial_2, lxb]
    rw [mAk (show k < 16 by omega), e1, ih k, if_neg (by omega)]
    by_cases e : q = 16 + k
    · subst e; rw [upd_s, if_pos (by omega)]; congr 1; omega
    · rw [upd_n e, ih q]
      by_cases c : 16 ≤ q ∧ q < 16 + k
      · rw [if_pos c, if_pos (by omega)]
      · rw [if_neg c, if_neg (by omega)]
theorem lay_q (v : Nat → Int32) (q : Nat) : f_X5_layTrial v q = if 16 ≤ q ∧ q < 32 then v (q - 16) else v q := layL v 16 (Nat.le_refl _) q
theorem m_lay {T : TDt} (hT : TW T) {a : AS} {v : Nat → Int32} (hM : MR T 0 a v) : MR T 16 a (f_X5_layTrial v) ∧ MY 16 v (f_X5_layTrial v) := by
  have h6 := hT.1
  obtain ⟨h1, h2, h3, h4, h5⟩ := hM
  refine ⟨⟨fun p hp => ?_, ?_, ?_, ?_, ?_⟩, fun q hq => ?_⟩
  · have := h1 p hp
    rw [lay_q, if_pos (by omega), lay_q, if_pos (by omega), show 16 + p - 16 = 0 + p by omega, show 16 + 6 + p - 16 = 0 + 6 + p by omega]
    exact this
  · rw [lay_q, if_pos (by omega)]; exact h2
  · rw [lay_q, if_pos (by omega)]; exact h3
  · rw [lay_q, if_pos (by omega)]; exact h4
  · rw [lay_q, if_pos (by omega)]; exact h5
  · rw [lay_q, if_neg (by omega)]
theorem m_goL {T : TDt} (hT : TW T) {a : AS} (hA : AW T a) {players bars : Int32} {pr wd kd lk no rp v : Nat → Int32} (hc : CT T players bars pr wd kd lk no rp) (hM : MR T 16 a v) : ∀ k,
    (l_X5_goOn_4 players bars no kd lk rp (0, v) k).1 = nI (aSum T a k) ∧ MR T 16 (aGo T a k) (l_X5_goOn_4 players bars no kd lk rp (0, v) k).2 ∧ MY 16 v (l_X5_goOn_4 players bars no kd lk rp (0, v) k).2
  | 0 => ⟨rfl, hM, MY.refl⟩
  | k + 1 => by
    obtain ⟨h1, h2, h3⟩ := m_goL hT hA hc hM k
    obtain ⟨g1, g2, g3⟩ := m_pass hT (lv := 1) (by decide) (aGo_ok hA k) hc h2 rfl
    rw [l_X5_goOn_4]
    dsimp only [b_X5_goOn_4, lxb]
    exact ⟨by rw [h1, show (1 : Int32) = nI 1 from rfl, g1, nI_add]; rfl, g2, h3.trans g3⟩
theorem m_go {T : TDt} (hT : TW T) {a : AS} (hA : AW T a) {players bars : Int32} {pr wd kd lk no rp v : Nat → Int32} (hc : CT T players bars pr wd kd lk no rp) (hM : MR T 16 a v) {n : Nat} (hn : n < 2 ^ 31) {r : Int32 × (Nat → Int32)} (er : r = f_X5_goOn (nI n) players bars v no kd lk rp) :
    r.1 = nI (aSum T a n) ∧ MR T 16 (aGo T a n) r.2 ∧ MY 16 v r.2 := by
  subst er
  dsimp only [f_X5_goOn, lxb]
  rw [itn0 hn]
  exact m_goL hT hA hc hM n
def aSome (a : AS) (s z k : Nat) : AS := (fun p => if p < k ∧ s.testBit p = true then z else a.1 p, a.2)
theorem tb_has : ∀ m, m < 64 → ∀ p, p < 6 → f_X5_has (nI m) (nI p) = if m.testBit p then 1 else 0 := by decide +kernel
theorem MP.sameP {n b : Nat} {a a' : AT} {v : Nat → Int32} (h : MP n b a v) (e : ∀ p, p < n → a'.1 p = a.1 p) (e2 : a'.2 = a.2) : MP n b a' v := h.same fun p hp => ⟨e p hp, by rw [e2]⟩
theorem m_someL {T : TDt} (hT : TW T) {a : AS} {v : Nat → Int32} (hM : MR T 16 a v) {s z : Nat} (hs : s < 64) : ∀ k, k ≤ tnp T → MR T 16 (aSome a s z k) (l_X5_makeSome_2 (nI s) (nI z) v k) ∧ MY 16 v (l_X5_makeSome_2 (nI s) (nI z) v k)
  | 0, _ => ⟨hM.sameT (fun p _ => by show (if p < 0 ∧ s.testBit p = true then z else a.1 p) = _; rw [if_neg (fun q => Nat.not_lt_zero _ q.1)]) rfl, MY.refl⟩
  | k + 1, hk => by
    have h6 := hT.1
    obtain ⟨i1, i2⟩ := m_someL hT hM (z := z) hs k (by omega)
    rw [l_X5_makeSome_2]
    generalize l_X5_makeSome_2 (nI s) (nI z) v k = u at i1 i2 ⊢
    have e1 : Int32.toNatClampNeg (16 + nI k) = 16 + k := by rw [show (16 : Int32) = nI 16 from rfl, nI_add, nI_clamp (by omega)]
    dsimp only [b_X5_makeSome_2, lxb]
    rw [e1, tb_has s hs k (by omega)]
    cases d : s.testBit k
    · rw [if_neg (show ¬ false = true by decide), if_pos (show (0 : Int32) = 0 from rfl)]
      have same : upd u (16 + k) (u (16 + k)) = u := by
        funext q
        by_cases e : q = 16 + k
        · rw [e, upd_s]
        · exact upd_n e
      rw [same]
      refine ⟨i1.sameT (fun p _ => ?_) rfl, i2⟩
      show (if p < k + 1 ∧ s.testBit p = true then z else a.1 p) = (if p < k ∧ s.testBit p = true then z else a.1 p)
      by_cases e : p = k
      · subst e; rw [if_neg (by rw [d]; simp), if_neg (by rw [d]; simp)]
      · have : (p < k + 1) ↔ p < k := by omega
        simp only [this]
    · rw [if_pos (show true = true from rfl), if_neg (show ¬ (1 : Int32) = 0 by decide)]
      refine ⟨?_, i2.trans (MY.up (by omega))⟩
      obtain ⟨j1, j2, j3, j4, j5⟩ := i1
      refine ⟨(j1.st h6 (show k < tnp T by omega) z).sameP (fun p _ => ?_) rfl, ?_, ?_, ?_, ?_⟩
      · show (if p < k + 1 ∧ s.testBit p = true then z else a.1 p) = va_up (fun p => if p < k ∧ s.testBit p = true then z else a.1 p) k z p
        unfold va_up
        by_cases e : p = k
        · subst e; rw [if_pos ⟨by omega, d⟩, if_pos rfl]
        · have : (p < k + 1) ↔ p < k := by omega
          rw [if_neg e]; simp only [this]
      · rw [upd_n (by omega)]; exact j2
      · rw [upd_n (by omega)]; exact j3
      · rw [upd_n (by omega)]; exact j4
      · rw [upd_n (by omega)]; exact j5
theorem m_some {T : TDt} (hT : TW T) {a : AS} {v : Nat → Int32} (hM : MR T 16 a v) {s z : Nat} (hs : s < 64) : MR T 16 (fun p => if s.testBit p = true then z else a.1 p, a.2) (f_X5_makeSome (nI s) (nI z) (nI (tnp T)) v) ∧ MY 16 v (f_X5_makeSome (nI s) (nI z) (nI (tnp T)) v) := by
  have h6 := hT.1
  dsimp only [f_X5_makeSome, lxb]
  rw [itn0 (by omega)]
  obtain ⟨h1, h2⟩ := m_someL hT hM (z := z) hs (tnp T) (Nat.le_refl _)
  refine ⟨h1.sameT (fun p hp => ?_) rfl, h2⟩
  show (if s.testBit p = true then z else a.1 p) = (if p < tnp T ∧ s.testBit p = true then z else a.1 p)
  simp [hp]
theorem m_give {T : TDt} {lv : Nat} (hlv : lv < 2) {a : AS} (hA : AW T a) (hT : TW T) {v : Nat → Int32} (hM : MR T (16 * lv) a v) {n : Nat} (hn : n < 100) : MR T (16 * lv) (aGive a n) (f_X5_giveOn (nI lv) (nI n) v) ∧ MY (16 * lv) v (f_X5_giveOn (nI lv) (nI n) v) := by
  have h6 := hT.1
  have h9 := hA.2.2
  obtain ⟨h1, h2, h3, h4, h5⟩ := hM
  dsimp only [f_X5_giveOn, lxb]
  rw [mA14 hlv, h4, nI_add]
  have e : (if nI (a.2.2.2.2.1 + n) ≤ 99 then nI (a.2.2.2.2.1 + n) else 99) = nI (min 99 (a.2.2.2.2.1 + n)) := by
    by_cases c : a.2.2.2.2.1 + n ≤ 99
    · rw [if_pos (show nI (a.2.2.2.2.1 + n) ≤ (99 : Int32) from nI_le (b := 99) c (by decide)), Nat.min_eq_right c]
    · rw [if_neg (show ¬ nI (a.2.2.2.2.1 + n) ≤ (99 : Int32) from nI_ge (b := a.2.2.2.2.1 + n) (a := 99) (by omega) (by omega)), Nat.min_eq_left (by omega)]; rfl
  rw [e]
  refine ⟨⟨fun p hp => ?_, ?_, ?_, ?_, ?_⟩, MY.up (by omega)⟩
  · rw [upd_n (show 16 * lv + p ≠ 16 * lv + 14 by omega), upd_n (show 16 * lv + 6 + p ≠ 16 * lv + 14 by omega)]; exact h1 p hp
  · rw [upd_n (by omega)]; exact h2
  · rw [upd_n (by omega)]; exact h3
  · rw [upd_s]; rfl
  · rw [upd_n (by omega)]; exact h5
theorem m_canPay {T : TDt} (hT : TW T) {lv : Nat} (hlv : lv < 2) {a : AS} (hA : AW T a) {players bars : Int32} {pr wd kd lk no rp v : Nat → Int32} (hc : CT T players bars pr wd kd lk no rp) (hM : MR T (16 * lv) a v) {p : Nat} (hp : p < 10) : f_X5_canPay (nI lv) (nI p) players v pr = if aCanPay T a p = true then 1 else 0 := by
  have h6 := hT.1
  have h9 := hA.2.2
  dsimp only [f_X5_canPay, lxb]
  rw [hc.1, m_plays hT hlv hM.1 (fun p hp => (hA.1 p hp).1) hp]
  unfold aCanPay
  by_cases c : p < tnp T ∧ a.1 p = 0
  · have h3 := (hT.2.2.1 p c.1).1
    rw [if_pos (show p < tnp T ∧ (a.1, a.2.1).1 p = 0 from c), if_neg (show ¬ (1 : Int32) = 0 by decide), mA14 hlv, hM.2.2.2.1, mAk (by omega), (hc.2.2.1 p c.1).1]
    by_cases d : tpr T p ≤ a.2.2.2.2.1
    · rw [if_neg (nI_nlt d (by omega))]; simp [c.1, c.2, d]
    · rw [if_pos (nI_lt (by omega) (by omega))]; simp [d]
  · rw [if_neg (show ¬ (p < tnp T ∧ (a.1, a.2.1).1 p = 0) from c), if_pos rfl]
    by_cases d : p < tnp T
    · have : ¬ a.1 p = 0 := fun q => c ⟨d, q⟩
      simp [this]
    · simp [d]
theorem m_pay {T : TDt} (hT : TW T) {lv : Nat} (hlv : lv < 2) {a : AS} {players bars : Int32} {pr wd kd lk no rp v : Nat → Int32} (hc : CT T players bars pr wd kd lk no rp) (hM : MR T (16 * lv) a v) {p : Nat} (hp : aCanPay T a p = true) : MR T (16 * lv) (aPay T a p) (f_X5_payOn (nI lv) (nI p) v pr) ∧ MY (16 * lv) v (f_X5_payOn (nI lv) (nI p) v pr) := by
  have h6 := hT.1
  unfold aCanPay at hp
  simp at hp
  obtain ⟨⟨hp, _⟩, hh⟩ := hp
  obtain ⟨h1, h2, h3, h4, h5⟩ := hM
  dsimp only [f_X5_payOn, lxb]
  rw [mA14 hlv, mA0 hlv (by omega), mAk (by omega), h4, (hc.2.2.1 p hp).1, pk_sub hh]
  refine ⟨⟨?_, ?_, ?_, ?_, ?_⟩, (MY.up (by omega)).trans (MY.up (by omega))⟩
  · refine MP.st (a := (a.1, a.2.1)) (fun q hq => ?_) h6 hp 1
    rw [upd_n (show 16 * lv + q ≠ 16 * lv + 14 by omega), upd_n (show 16 * lv + 6 + q ≠ 16 * lv + 14 by omega)]; exact h1 q hq
  · rw [upd_n (by omega), upd_n (by omega)]; exact h2
  · rw [upd_n (by omega), upd_n (by omega)]; exact h3
  · rw [upd_n (by omega), upd_s]; rfl
  · rw [upd_n (by omega), upd_n (by omega)]; exact h5
theorem m_canRest {T : TDt} (hT : TW T) {lv : Nat} (hlv : lv < 2) {a : AS} (hA : AW T a) {players bars : Int32} {pr wd kd lk no rp v : Nat → Int32} (hc : CT T players bars pr wd kd lk no rp) (hM : MR T (16 * lv) a v) {p : Nat} (hp : p < 10) : f_X5_canRest (nI lv) (nI p) players v wd = if aCanRest T a p = true then 1 else 0 := by
  have h6 := hT.1
  dsimp only [f_X5_canRest, lxb]
  rw [hc.1, m_isP hp h6]
  unfold aCanRest
  by_cases c : p < tnp T
  · have h3 := (hT.2.2.1 p c).2.1
    have h2 := (hA.1 p c).1
    rw [if_pos c, if_neg (show ¬ (1 : Int32) = 0 by decide), mA0 hlv (by omega), mAk (by omega), (hM.1 p c).1, (hc.2.2.1 p c).2.1]
    show (if nI (a.1 p) = 2 then _ else _) = _
    by_cases d : a.1 p = 2
    · rw [if_pos (show nI (a.1 p) = (2 : Int32) by rw [d]; rfl)]
      by_cases e : 0 < twd T p
      · rw [if_neg (show ¬ nI (twd T p) ≤ (0 : Int32) from nI_ge (b := twd T p) (a := 0) e (by omega))]; simp [c, d, e]
      · rw [if_pos (show nI (twd T p) ≤ (0 : Int32) from nI_le (b := 0) (by omega) (by decide))]; simp [e]
    · rw [if_neg (show ¬ nI (a.1 p) = (2 : Int32) from fun q => d ((nI_eq (show a.1 p < 2 ^ 31 by omega) (show 2 < 2 ^ 31 by decide)).mp q))]; simp [d]
  · rw [if_neg c, if_pos rfl]; simp [c]
theorem m_rest {T : TDt} (hT : TW T) {lv : Nat} (hlv : lv < 2) {a : AS} {players bars : Int32} {pr wd kd lk no rp v : Nat → Int32} (hc : CT T players bars pr wd kd lk no rp) (hM : MR T (16 * lv) a v) {p : Nat} (hp : p < tnp T) : MR T (16 * lv) (aRest T a p) (f_X5_restOn (nI lv) (nI p) v wd) ∧ MY (16 * lv) v (f_X5_restOn (nI lv) (nI p) v wd) := by
  have h6 := hT.1
  obtain ⟨h1, h2, h3, h4, h5⟩ := hM
  dsimp only [f_X5_restOn, lxb]
  rw [mA0 hlv (by omega), mA6 hlv (by omega), mAk (by omega), (hc.2.2.1 p hp).2.1]
  refine ⟨⟨(h1.st h6 hp 0).wi h6 hp _, ?_, ?_, ?_, ?_⟩, (MY.up (by omega)).trans (MX.wi (by omega)).y⟩
  · rw [upd_n (by omega), upd_n (by omega)]; exact h2
  · rw [upd_n (by omega), upd_n (by omega)]; exact h3
  · rw [upd_n (by omega), upd_n (by omega)]; exact h4
  · rw [upd_n (by omega), upd_n (by omega)]; exact h5
theorem m_begin {T : TDt} (hT : TW T) {lv : Nat} (hlv : lv < 2) {a : AS} {v : Nat → Int32} (hM : MR T (16 * lv) a v) : MR T (16 * lv) (aAgain a) (f_X5_beginOn (nI lv) v) ∧ MY (16 * lv) v (f_X5_beginOn (nI lv) v) := by
  have h6 := hT.1
  obtain ⟨h1, h2, h3, h4, h5⟩ := hM
  dsimp only [f_X5_beginOn, lxb]
  rw [mA12 hlv, mA13 hlv]
  refine ⟨⟨fun p hp => ?_, ?_, ?_, ?_, ?_⟩, (MY.up (by omega)).trans (MY.up (by omega))⟩
  · rw [upd_n (show 16 * lv + p ≠ 16 * lv + 13 by omega), upd_n (show 16 * lv + p ≠ 16 * lv + 12 by omega), upd_n (show 16 * lv + 6 + p ≠ 16 * lv + 13 by omega), upd_n (show 16 * lv + 6 + p ≠ 16 * lv + 12 by omega)]; exact h1 p hp
  · rw [upd_n (by omega), upd_s]; rfl
  · rw [upd_s]; rfl
  · rw [upd_n (by omega), upd_n (by omega)]; exact h4
  · rw [upd_n (by omega), upd_n (by omega)]; exact h5
