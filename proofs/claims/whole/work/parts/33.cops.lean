/-! bars in a row, gifts, pay, rest: the class's moment against the abstract one -/
theorem aPlayers_ok {T : TDt} (loud : Bool) {a : AT} (h : ∀ p, p < tnp T → a.1 p ≤ 2 ∧ a.2 p ≤ 9) : (∀ p, p < tnp T → (aPlayers T loud a).1 p ≤ 2 ∧ (aPlayers T loud a).2 p ≤ 9) ∧ ∀ p, (aPlayers T loud a).1 p = 1 ↔ a.1 p = 1 := by
  obtain ⟨b1, b2⟩ := aBlow_ok (T := T) loud h (tnp T)
  obtain ⟨l1, l2⟩ := aLean_ok (T := T) (fun p hp => (b1 p hp).1) (tnp T)
  obtain ⟨o1, o2⟩ := aLone_ok (T := T) l1
  obtain ⟨d1, d2⟩ := aDrum_ok (T := T) (a := (aLone T (aLean T (aBlow T loud a (tnp T)).1 (tnp T)), (aBlow T loud a (tnp T)).2)) (n := tnp T) (fun p hp => ⟨o1 p hp, (b1 p hp).2⟩) (tnp T)
  exact ⟨d1, fun p => (d2 p).trans ((o2 p).trans ((l2 p).trans (b2 p)))⟩
theorem aTurn_ok {T : TDt} {nx : Nat} (h : nx < tnb T) (tk : Int32) : (aTurn T nx tk).1 ≤ tnb T := by
  unfold aTurn
  split
  · rename_i c; show trp T nx - 1 ≤ _; omega
  · show nx + 1 ≤ _; omega
theorem not_silent {T : TDt} {a : AS} (h : ¬ aSilent T a = true) : a.2.2.1 < tnb T := by
  unfold aSilent at h
  simp at h
  exact h.2
theorem aPass_ok {T : TDt} {a : AS} (hA : AW T a) : AW T (aPass T a) := by
  unfold aPass
  split
  · exact hA
  · rename_i c
    exact ⟨(aPlayers_ok _ hA.1).1, aTurn_ok (not_silent c) _, hA.2.2⟩
theorem aGo_ok {T : TDt} {a : AS} (hA : AW T a) : ∀ n, AW T (aGo T a n)
  | 0 => hA
  | n + 1 => aPass_ok (aGo_ok hA n)
theorem aGo_shift {T : TDt} (a : AS) : ∀ n, aGo T a (n + 1) = aGo T (aPass T a) n
  | 0 => rfl
  | n + 1 => by rw [aGo, aGo_shift a n, aGo]
theorem aSum_shift {T : TDt} (a : AS) : ∀ n, aSum T a (n + 1) = aNoise T a + aSum T (aPass T a) n
  | 0 => by simp [aSum, aGo]
  | n + 1 => by rw [aSum, aSum_shift a n, aSum, aGo_shift, Nat.add_assoc]
theorem aPass_sil {T : TDt} {a : AS} (h : aSilent T a = true) : aPass T a = a := by unfold aPass; rw [if_pos h]
theorem aGo_sil {T : TDt} {a : AS} (h : aSilent T a = true) : ∀ n, aGo T a n = a
  | 0 => rfl
  | n + 1 => by rw [aGo, aGo_sil h n, aPass_sil h]
theorem aSum_sil {T : TDt} {a : AS} (h : aSilent T a = true) : ∀ n, aSum T a n = 0
  | 0 => rfl
  | n + 1 => by rw [aSum, aSum_sil h n, aGo_sil h, aNoise, if_pos h]
theorem aGo_add {T : TDt} (a : AS) (k : Nat) : ∀ n, aGo T a (k + n) = aGo T (aGo T a k) n
  | 0 => rfl
  | n + 1 => by rw [← Nat.add_assoc, aGo, aGo_add a k n, aGo]
theorem aNoise_le {T : TDt} (hT : TW T) {a : AS} : aNoise T a ≤ 54 := by
  unfold aNoise
  split
  · omega
  · rename_i c
    have h1 := (hT.2.2.2 _ (not_silent c)).1
    have h2 := many_le a.1 (tnp T)
    have h6 := hT.1
    exact Nat.le_trans (Nat.mul_le_mul h1 (Nat.le_trans h2 h6)) (by decide)
theorem aSum_le {T : TDt} (hT : TW T) (a : AS) : ∀ n, aSum T a n ≤ 54 * n
  | 0 => Nat.le_refl _
  | n + 1 => by
    have h1 := aSum_le hT a n
    have h2 := aNoise_le hT (a := aGo T a n)
    rw [aSum]; omega
theorem c_bar {T : TDt} (hT : TW T) {a : AS} (hA : AW T a) {players bars pl pd nx tk ht tm : Int32} {pr wd kd lk no rp wi : Nat → Int32} (hc : CT T players bars pr wd kd lk no rp) (hC : CM T a pl pd nx tk ht tm wi) {r : Int32 × Int32 × Int32 × Int32 × Int32 × (Nat → Int32)} (er : r = f_X2_playBar pl pd nx tk tm players bars no kd wi lk rp) :
    r.1 = (if aSilent T a = true then 0 else 1) ∧ CM T (aPass T a) r.2.1 pd r.2.2.1 r.2.2.2.1 ht r.2.2.2.2.1 r.2.2.2.2.2 := by
  obtain ⟨e1, e2, e3, e4⟩ := hc
  obtain ⟨h1, h2, h3, h4, h5, h6⟩ := hC
  subst er
  rw [e1, e2]
  dsimp only [f_X2_playBar, lxb]
  rw [c_silent hT hA h1.1 h3]
  by_cases c : aSilent T a = true
  · rw [if_pos c, if_neg (show ¬ (1 : Int32) = 0 by decide), aPass_sil c]
    exact ⟨(if_pos c).symm, h1, h2, h3, h4, h5, h6⟩
  · have hb := not_silent c
    have hk : ∀ p, p < tnp T → kd p = nI (tkd T p) := fun p hp => (e3 p hp).2.2.1
    have hk2 : ∀ p, p < tnp T → kd p = nI (tkd T p) ∧ lk p = nI (tlk T p) := fun p hp => (e3 p hp).2.2
    have s1 := c_spend hT (pl := pl) (nx := nx) (no := no) (kd := kd) (wi := wi) (a := a) hk (fun b hb => (e4 b hb).1) h3 hb h1 hA.1
    obtain ⟨b1, b2⟩ := aBlow_ok (T := T) (decide (5 ≤ tno T a.2.2.1)) (a := (a.1, a.2.1)) hA.1 (tnp T)
    have s2 := c_lean hT hk2 s1.1 (tnp T) (Nat.le_refl _)
    obtain ⟨l1, l2⟩ := aLean_ok (T := T) (fun p hp => (b1 p hp).1) (tnp T)
    have s3 := c_lonely hT hk s2
    obtain ⟨o1, o2⟩ := aLone_ok (T := T) l1
    have s4 := c_drum hT hk2 (a := (aLone T (aLean T (aBlow T (decide (5 ≤ tno T a.2.2.1)) (a.1, a.2.1) (tnp T)).1 (tnp T)), (aBlow T (decide (5 ≤ tno T a.2.2.1)) (a.1, a.2.1) (tnp T)).2)) (pd := pd) (v := (_, _)) ⟨s3, s1.2⟩ (h2.keep fun p _ => (o2 p).trans ((l2 p).trans (b2 p))) (fun p hp => ⟨o1 p hp, (b1 p hp).2⟩) (tnp T) (Nat.le_refl _)
    have h6' := hT.1
    rw [if_neg c, if_pos rfl, h3, c_turn hT (fun b hb => (e4 b hb).2) hb, ← h3]
    dsimp only [f_X2_tireLeaners, f_X2_wakeDrums, lxb]
    rw [itn0 (show tnp T < 2 ^ 31 by omega)]
    have ep : aPass T a = ((aPlayers T (decide (5 ≤ tno T a.2.2.1)) (a.1, a.2.1)).1, (aPlayers T (decide (5 ≤ tno T a.2.2.1)) (a.1, a.2.1)).2, (aTurn T a.2.2.1 a.2.2.2.1).1, (aTurn T a.2.2.1 a.2.2.2.1).2, a.2.2.2.2.1, a.2.2.2.2.2 + 1) := by unfold aPass; rw [if_neg c]
    rw [ep]
    refine ⟨(if_neg c).symm, s4, h2.keep fun p _ => (aPlayers_ok (T := T) (decide (5 ≤ tno T a.2.2.1)) (a := (a.1, a.2.1)) hA.1).2 p, ?_, ?_, h5, ?_⟩
    · rw [h4]
    · rw [h4]
    · rw [h6]
theorem c_bars {T : TDt} (hT : TW T) {a : AS} (hA : AW T a) {players bars pl pd nx tk ht tm : Int32} {pr wd kd lk no rp wi : Nat → Int32} (hc : CT T players bars pr wd kd lk no rp) (hC : CM T a pl pd nx tk ht tm wi) : ∀ k, CM T (aGo T a k) (l_X2_playBars_2 pd players bars no kd lk rp (pl, nx, tk, tm, wi) k).1 pd (l_X2_playBars_2 pd players bars no kd lk rp (pl, nx, tk, tm, wi) k).2.1 (l_X2_playBars_2 pd players bars no kd lk rp (pl, nx, tk, tm, wi) k).2.2.1 ht (l_X2_playBars_2 pd players bars no kd lk rp (pl, nx, tk, tm, wi) k).2.2.2.1 (l_X2_playBars_2 pd players bars no kd lk rp (pl, nx, tk, tm, wi) k).2.2.2.2
  | 0 => hC
  | k + 1 => (c_bar hT (aGo_ok hA k) hc (c_bars hT hA hc hC k) rfl).2
theorem c_playBars {T : TDt} (hT : TW T) {a : AS} (hA : AW T a) {players bars pl pd nx tk ht tm : Int32} {pr wd kd lk no rp wi : Nat → Int32} (hc : CT T players bars pr wd kd lk no rp) (hC : CM T a pl pd nx tk ht tm wi) {n : Nat} (hn : n < 2 ^ 31) {r : Int32 × Int32 × Int32 × Int32 × (Nat → Int32)} (er : r = f_X2_playBars (nI n) pl pd nx tk tm players bars no kd wi lk rp) : CM T (aGo T a n) r.1 pd r.2.1 r.2.2.1 ht r.2.2.2.1 r.2.2.2.2 := by
  subst er
  dsimp only [f_X2_playBars, lxb]
  rw [itn0 hn]
  exact c_bars hT hA hc hC n
theorem BP.many {n : Nat} {st : Nat → Nat} {x : Int32} (hn : n ≤ 6) (h : BP n st 0 x) : f_J6_bitCount x = nI (aMany st n) := by
  obtain ⟨m, h1, h2, h3⟩ := h
  rw [h2, tb_cnt m h1]
  have e : ∀ p, p < 6 → bit1 m p = if p < n ∧ st p = 0 then 1 else 0 := fun p hp => by
    unfold bit1
    rw [h3 p hp]
    by_cases c : p < n ∧ st p = 0 <;> simp [c]
  unfold bcnt
  rw [e 0 (by omega), e 1 (by omega), e 2 (by omega), e 3 (by omega), e 4 (by omega), e 5 (by omega)]
  congr 1
  rcases (show n = 0 ∨ n = 1 ∨ n = 2 ∨ n = 3 ∨ n = 4 ∨ n = 5 ∨ n = 6 by omega) with rfl | rfl | rfl | rfl | rfl | rfl | rfl <;> simp [aMany]
theorem c_noise {T : TDt} (hT : TW T) {players bars pd ht : Int32} {pr wd kd lk no rp : Nat → Int32} (hc : CT T players bars pr wd kd lk no rp) : ∀ (n k : Nat) (a : AS) (s : Int32) (pl nx tk tm : Int32) (wi : Nat → Int32), AW T a → CM T a pl pd nx tk ht tm wi →
    (l_X2_playNoise_5 pd players bars no kd lk rp n k (s, pl, nx, tk, tm, wi)).1 = s + nI (aSum T a n) ∧ CM T (aGo T a n) (l_X2_playNoise_5 pd players bars no kd lk rp n k (s, pl, nx, tk, tm, wi)).2.1 pd (l_X2_playNoise_5 pd players bars no kd lk rp n k (s, pl, nx, tk, tm, wi)).2.2.1 (l_X2_playNoise_5 pd players bars no kd lk rp n k (s, pl, nx, tk, tm, wi)).2.2.2.1 ht (l_X2_playNoise_5 pd players bars no kd lk rp n k (s, pl, nx, tk, tm, wi)).2.2.2.2.1 (l_X2_playNoise_5 pd players bars no kd lk rp n k (s, pl, nx, tk, tm, wi)).2.2.2.2.2
  | 0, k, a, s, pl, nx, tk, tm, wi, hA, hC => ⟨(Int32.add_zero s).symm, hC⟩
  | n + 1, k, a, s, pl, nx, tk, tm, wi, hA, hC => by
    have h8 := hT.2.1
    have hs := c_silent hT hA hC.1.1 hC.2.2.1
    rw [← hc.2.1] at hs
    by_cases c : aSilent T a = true
    · have e : l_X2_playNoise_5 pd players bars no kd lk rp (n + 1) k (s, pl, nx, tk, tm, wi) = (s, pl, nx, tk, tm, wi) := by
        dsimp only [l_X2_playNoise_5, lxb]
        rw [hs, if_pos c, if_neg (show ¬ (1 : Int32) = 0 by decide)]
      rw [e, aSum_sil c, aGo_sil c]
      exact ⟨(Int32.add_zero s).symm, hC⟩
    · have hb := not_silent c
      have ih := c_noise hT hc n (k + 1) (aPass T a) (s + (no a.2.2.1 * nI (aMany a.1 (tnp T)))) _ _ _ _ _ (aPass_ok hA) (c_bar hT hA hc hC rfl).2
      have e : l_X2_playNoise_5 pd players bars no kd lk rp (n + 1) k (s, pl, nx, tk, tm, wi) = l_X2_playNoise_5 pd players bars no kd lk rp n (k + 1) (s + (no a.2.2.1 * nI (aMany a.1 (tnp T))), (f_X2_playBar pl pd nx tk tm players bars no kd wi lk rp).2) := by
        rw [l_X2_playNoise_5]
        dsimp only [lxb, f_X2_howManyPlay]
        rw [hs, if_neg c, if_pos rfl, hC.1.1.many hT.1, hC.2.2.1, at_in (show a.2.2.1 < 8 by omega) (by decide)]
      rw [e, aSum_shift, aGo_shift]
      refine ⟨ih.1.trans ?_, ih.2⟩
      have e2 : no a.2.2.1 * nI (aMany a.1 (tnp T)) = nI (aNoise T a) := by
        rw [(hc.2.2.2 _ hb).1, pk_mul, aNoise, if_neg c]
      rw [e2, Int32.add_assoc, nI_add]
theorem c_playNoise {T : TDt} (hT : TW T) {a : AS} (hA : AW T a) {players bars pl pd nx tk ht tm : Int32} {pr wd kd lk no rp wi : Nat → Int32} (hc : CT T players bars pr wd kd lk no rp) (hC : CM T a pl pd nx tk ht tm wi) {n : Nat} (hn : n < 2 ^ 31) {r : Int32 × Int32 × Int32 × Int32 × Int32 × (Nat → Int32)} (er : r = f_X2_playNoise (nI n) pl pd nx tk tm players bars no kd wi lk rp) :
    r.1 = nI (aSum T a n) ∧ CM T (aGo T a n) r.2.1 pd r.2.2.1 r.2.2.2.1 ht r.2.2.2.2.1 r.2.2.2.2.2 := by
  subst er
  unfold f_X2_playNoise
  rw [itn0 hn]
  have h := c_noise hT hc n 0 a 0 pl nx tk tm wi hA hC
  rw [Int32.zero_add] at h
  exact h
theorem becL (w2 : Nat → Int32) (w : Nat → Int32) : ∀ k, k ≤ 6 → ∀ p, p < k → l_X2_become_50 w2 w k p = w2 p
  | 0, _, p, h => absurd h (Nat.not_lt_zero _)
  | k + 1, hk, p, h => by
    show f_X4_put (nI k) (f_X4_at (nI k) 6 w2) 6 (l_X2_become_50 w2 w k) p = w2 p
    rw [at_in (show k < 6 by omega) (by decide), put_in (show k < 6 by omega) (by decide)]
    by_cases e : p = k
    · subst e; rw [upd_s]
    · rw [upd_n e]; exact becL w2 w k (by omega) p (by omega)
theorem c_become {T : TDt} (hT : TW T) {a : AS} {pl pd nx tk ht tm : Int32} {wi w : Nat → Int32} (hC : CM T a pl pd nx tk ht tm wi) {r : Int32 × Int32 × Int32 × Int32 × Int32 × Int32 × (Nat → Int32)} (er : r = f_X2_become pl pd nx tk ht tm wi w) : CM T a r.1 r.2.1 r.2.2.1 r.2.2.2.1 r.2.2.2.2.1 r.2.2.2.2.2.1 r.2.2.2.2.2.2 := by
  subst er
  have h6 := hT.1
  refine ⟨⟨hC.1.1, fun p hp => ?_⟩, hC.2⟩
  show l_X2_become_50 wi w 6 p = _
  rw [becL wi w 6 (Nat.le_refl _) p (by omega)]
  exact hC.1.2 p hp
/-! ### paid, tired, gifts, rests -/
def aPaySet (a : AS) (s : Nat) : AS := (fun p => if s.testBit p = true then 1 else a.1 p, a.2)
def aTireSet (a : AS) (s : Nat) : AS := (fun p => if s.testBit p = true then 2 else a.1 p, a.2)
theorem aPaySet_ok {T : TDt} {a : AS} (hA : AW T a) (s : Nat) : AW T (aPaySet a s) := ⟨fun p hp => by
  have := hA.1 p hp
  refine ⟨?_, this.2⟩
  show (if s.testBit p = true then 1 else a.1 p) ≤ 2
  split <;> omega, hA.2⟩
theorem aTireSet_ok {T : TDt} {a : AS} (hA : AW T a) (s : Nat) : AW T (aTireSet a s) := ⟨fun p hp => by
  have := hA.1 p hp
  refine ⟨?_, this.2⟩
  show (if s.testBit p = true then 2 else a.1 p) ≤ 2
  split <;> omega, hA.2⟩
theorem tb_63 {p : Nat} (hp : p < 6) : (63 : Nat).testBit p = true := by
  rcases (show p = 0 ∨ p = 1 ∨ p = 2 ∨ p = 3 ∨ p = 4 ∨ p = 5 by omega) with rfl | rfl | rfl | rfl | rfl | rfl <;> rfl
theorem BP.less {n s : Nat} {st st' : Nat → Nat} {x : Int32} (h : BP n st 0 x) (hs : s < 64) (e : ∀ p, p < n → (st' p = 0 ↔ (st p = 0 ∧ s.testBit p = false))) : BP n st' 0 (x &&& (nI s ^^^ (-1))) := by
  obtain ⟨m, h1, h2, h3⟩ := h
  obtain ⟨t1, t2⟩ := tb_sub m h1 s hs
  refine ⟨m &&& (63 ^^^ s), t2, by rw [h2, t1], fun p hp => ?_⟩
  rw [Nat.testBit_and, Nat.testBit_xor, tb_63 hp, h3 p hp]
  by_cases c : p < n
  · cases d : s.testBit p
    · by_cases f : st p = 0
      · simp [c, f, (e p c).mpr ⟨f, d⟩]
      · have : ¬ st' p = 0 := fun q => f ((e p c).mp q).1
        simp [c, f, this]
    · have : ¬ st' p = 0 := fun q => by have := ((e p c).mp q).2; rw [d] at this; cases this
      simp [c, this]
  · simp [c]
theorem BP.more {n s : Nat} {st st' : Nat → Nat} {x : Int32} (h : BP n st 1 x) (hs : s < 64) (hsn : ∀ p, p < 6 → s.testBit p = true → p < n) (e : ∀ p, p < n → (st' p = 1 ↔ (st p = 1 ∨ s.testBit p = true))) : BP n st' 1 (x ||| nI s) := by
  obtain ⟨m, h1, h2, h3⟩ := h
  refine ⟨m ||| s, Nat.or_lt_two_pow (n := 6) h1 hs, ?_, fun p hp => ?_⟩
  · rw [h2]
    apply Int32.toBitVec_inj.mp
    show BitVec.ofNat 32 m ||| BitVec.ofNat 32 s = BitVec.ofNat 32 (m ||| s)
    rw [BitVec.ofNat_or]
  · rw [Nat.testBit_or, h3 p hp]
    by_cases c : p < n
    · cases d : s.testBit p
      · by_cases f : st p = 1
        · simp [c, f, (e p c).mpr (Or.inl f)]
        · have : ¬ st' p = 1 := fun q => by rcases (e p c).mp q with w | w; exact f w; rw [d] at w; cases w
          simp [c, f, this]
      · simp [c, (e p c).mpr (Or.inr d)]
    · cases d : s.testBit p
      · simp [c]
      · exact absurd (hsn p hp d) c
theorem c_payFreely {T : TDt} {a : AS} {pl pd nx tk ht tm : Int32} {wi : Nat → Int32} (hC : CM T a pl pd nx tk ht tm wi) {s : Nat} (hs : s < 64) (hsn : ∀ p, p < 6 → s.testBit p = true → p < tnp T) {r : Int32 × Int32} (er : r = f_X2_payFreely (nI s) pl pd) : CM T (aPaySet a s) r.1 r.2 nx tk ht tm wi := by
  subst er
  refine ⟨⟨hC.1.1.less hs fun p _ => ?_, hC.1.2⟩, hC.2.1.more hs hsn fun p _ => ?_, hC.2.2⟩
  · show (if s.testBit p = true then 1 else a.1 p) = 0 ↔ _
    cases s.testBit p <;> simp
  · show (if s.testBit p = true then 1 else a.1 p) = 1 ↔ _
    cases s.testBit p <;> simp
theorem c_tireSet {T : TDt} {a : AS} {pl pd nx tk ht tm : Int32} {wi : Nat → Int32} (hC : CM T a pl pd nx tk ht tm wi) {s : Nat} (hs : s < 64) (hsp : ∀ p, p < tnp T → s.testBit p = true → a.1 p = 0) : CM T (aTireSet a s) (f_X2_tire (nI s) pl) pd nx tk ht tm wi := by
  refine ⟨⟨hC.1.1.less hs fun p hp => ?_, hC.1.2⟩, hC.2.1.keep fun p hp => ?_, hC.2.2⟩
  · show (if s.testBit p = true then 2 else a.1 p) = 0 ↔ _
    cases s.testBit p <;> simp
  · show (if s.testBit p = true then 2 else a.1 p) = 1 ↔ _
    cases d : s.testBit p
    · simp
    · simp [hsp p hp d]
