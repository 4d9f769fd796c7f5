/-! leaners, basses, drums, the next bar: the class's bar is the abstract one -/
theorem nI_is {n k : Nat} (h : n < 2 ^ 31) (hk : k < 2 ^ 31) (c : n = k) : nI n = nI k := by rw [c]
theorem c_lean_step {T : TDt} (hT : TW T) {kd lk : Nat → Int32} (hk : ∀ p, p < tnp T → kd p = nI (tkd T p) ∧ lk p = nI (tlk T p)) {st : Nat → Nat} {v : Int32} (hC : BP (tnp T) st 0 v) {k : Nat} (h : k < tnp T) :
    BP (tnp T) (sLean T k st) 0 (b_X2_tireLeaners_2 (nI (tnp T)) lk kd k v) := by
  have h6 := hT.1
  have h3 := (hT.2.2.1 k h).2.2
  dsimp only [b_X2_tireLeaners_2, lxb]
  rw [at_in (show k < 6 by omega) (by decide), at_in (show k < 6 by omega) (by decide), (hk k h).1, (hk k h).2, hasP (by omega) (by omega), hC.play (show tlk T k < 6 by omega)]
  unfold sLean
  by_cases c1 : tkd T k = 1
  · rw [if_pos (show nI (tkd T k) = (1 : Int32) by rw [c1]; rfl)]
    by_cases c2 : tlk T k < tnp T
    · rw [if_pos c2, if_neg (show ¬ (1 : Int32) = 0 by decide)]
      by_cases c3 : st (tlk T k) = 0
      · rw [if_pos (show tlk T k < tnp T ∧ st (tlk T k) = 0 from ⟨c2, c3⟩), if_neg (show ¬ (1 : Int32) = 0 by decide), if_neg (fun q => q.2.2.2 c3)]
        exact hC
      · rw [if_neg (show ¬ (tlk T k < tnp T ∧ st (tlk T k) = 0) from fun q => c3 q.2), if_pos rfl]
        have := hC.tire (show k < 6 by omega)
        by_cases c4 : st k = 0
        · rw [if_pos c4] at this
          rw [if_pos ⟨c4, c1, c2, c3⟩]
          exact this
        · rw [if_neg c4] at this
          rw [if_neg (fun q => c4 q.1)]
          exact this
    · rw [if_neg c2, if_pos rfl, if_neg (fun q => c2 q.2.2.1)]
      exact hC
  · rw [if_neg (show ¬ nI (tkd T k) = (1 : Int32) from fun q => c1 ((nI_eq (show tkd T k < 2 ^ 31 by omega) (show 1 < 2 ^ 31 by decide)).mp q)), if_neg (fun q => c1 q.2.1)]
    exact hC
theorem c_lean {T : TDt} (hT : TW T) {kd lk : Nat → Int32} (hk : ∀ p, p < tnp T → kd p = nI (tkd T p) ∧ lk p = nI (tlk T p)) {st : Nat → Nat} {v : Int32} (hC : BP (tnp T) st 0 v) : ∀ k, k ≤ tnp T → BP (tnp T) (aLean T st k) 0 (l_X2_tireLeaners_2 (nI (tnp T)) lk kd v k)
  | 0, _ => hC
  | k + 1, h => c_lean_step hT hk (c_lean hT hk hC k (by omega)) (by omega)
theorem sLean_ok {T : TDt} {st : Nat → Nat} {n : Nat} (h : ∀ p, p < n → st p ≤ 2) (k : Nat) : (∀ p, p < n → sLean T k st p ≤ 2) ∧ ∀ p, sLean T k st p = 1 ↔ st p = 1 := by
  unfold sLean
  by_cases c : st k = 0 ∧ tkd T k = 1 ∧ tlk T k < tnp T ∧ ¬ st (tlk T k) = 0
  · rw [if_pos c]
    refine ⟨fun p hp => ?_, fun p => ?_⟩
    · have := h p hp
      unfold va_up; split <;> omega
    · unfold va_up
      split
      · rename_i e; subst e; rw [c.1]; simp
      · rfl
  · rw [if_neg c]; exact ⟨h, fun _ => Iff.rfl⟩
theorem aLean_ok {T : TDt} {st : Nat → Nat} {n : Nat} (h : ∀ p, p < n → st p ≤ 2) : ∀ k, (∀ p, p < n → aLean T st k p ≤ 2) ∧ ∀ p, aLean T st k p = 1 ↔ st p = 1
  | 0 => ⟨h, fun _ => Iff.rfl⟩
  | k + 1 => by
    obtain ⟨h1, h2⟩ := aLean_ok h k
    obtain ⟨h3, h4⟩ := sLean_ok (T := T) h1 k
    exact ⟨h3, fun p => (h4 p).trans (h2 p)⟩
/-- whether somebody other than a bass plays from k on -/
def aOtherF (T : TDt) (st : Nat → Nat) : Nat → Nat → Bool
  | 0, _ => false
  | n + 1, k => (decide (st k = 0) && !decide (tkd T k = 2)) || aOtherF T st n (k + 1)
theorem aOther_F {T : TDt} {st : Nat → Nat} : ∀ n k, aOther T st (k + n) = (aOther T st k || aOtherF T st n k)
  | 0, k => by simp [aOtherF]
  | n + 1, k => by
    rw [show k + (n + 1) = (k + 1) + n by omega, aOther_F n (k + 1), aOtherF, aOther, Bool.or_assoc]
theorem c_lone {T : TDt} (hT : TW T) {kd : Nat → Int32} (hk : ∀ p, p < tnp T → kd p = nI (tkd T p)) {st : Nat → Nat} {v : Int32} (hC : BP (tnp T) st 0 v) : ∀ n k, k + n = tnp T → l_X2_tireLonelyBasses_2 v kd n k () = if aOtherF T st n k = true then v else 0
  | 0, k, _ => by simp [l_X2_tireLonelyBasses_2, aOtherF]
  | n + 1, k, h => by
    have h6 := hT.1
    have h3 := (hT.2.2.1 k (by omega)).2.2.1
    have ih := c_lone hT hk hC n (k + 1) (by omega)
    dsimp only [l_X2_tireLonelyBasses_2, lxb]
    rw [hC.play (show k < 6 by omega), at_in (show k < 6 by omega) (by decide), hk k (by omega), ih, aOtherF]
    by_cases c1 : st k = 0
    · rw [if_pos (show k < tnp T ∧ st k = 0 from ⟨by omega, c1⟩), if_neg (show ¬ (1 : Int32) = 0 by decide)]
      by_cases c2 : tkd T k = 2
      · rw [if_pos (show nI (tkd T k) = (2 : Int32) by rw [c2]; rfl)]
        simp [c2]
      · rw [if_neg (show ¬ nI (tkd T k) = (2 : Int32) from fun q => c2 ((nI_eq (show tkd T k < 2 ^ 31 by omega) (show 2 < 2 ^ 31 by decide)).mp q))]
        simp [c1, c2]
    · rw [if_neg (show ¬ (k < tnp T ∧ st k = 0) from fun q => c1 q.2), if_pos rfl]
      simp [c1]
theorem c_lonely {T : TDt} (hT : TW T) {kd : Nat → Int32} (hk : ∀ p, p < tnp T → kd p = nI (tkd T p)) {st : Nat → Nat} {v : Int32} (hC : BP (tnp T) st 0 v) : BP (tnp T) (aLone T st) 0 (f_X2_tireLonelyBasses v (nI (tnp T)) kd) := by
  have h6 := hT.1
  unfold f_X2_tireLonelyBasses aLone
  rw [itn0 (by omega), c_lone hT hk hC _ 0 (by omega)]
  have e := aOther_F (T := T) (st := st) (tnp T) 0
  rw [Nat.zero_add] at e
  rw [e]
  simp only [aOther, Bool.false_or]
  by_cases c : aOtherF T st (tnp T) 0 = true
  · rw [if_pos c, if_pos c]; exact hC
  · rw [if_neg c, if_neg c]
    refine ⟨0, by decide, rfl, fun p hp => ?_⟩
    rw [Nat.zero_testBit]
    by_cases d : p < tnp T
    · by_cases e : st p = 0
      · simp [d, e]
      · simp [d, e]
    · simp [d]
theorem aLone_ok {T : TDt} {st : Nat → Nat} {n : Nat} (h : ∀ p, p < n → st p ≤ 2) : (∀ p, p < n → aLone T st p ≤ 2) ∧ ∀ p, aLone T st p = 1 ↔ st p = 1 := by
  unfold aLone
  split
  · exact ⟨h, fun _ => Iff.rfl⟩
  · refine ⟨fun p hp => ?_, fun p => ?_⟩
    · dsimp only; split
      · omega
      · exact h p hp
    · dsimp only; split
      · rename_i e; rw [e.2]; simp
      · rfl
theorem c_drum_step {T : TDt} (hT : TW T) {kd lk : Nat → Int32} (hk : ∀ p, p < tnp T → kd p = nI (tkd T p) ∧ lk p = nI (tlk T p)) {a : AT} {pd : Int32} {v : Int32 × (Nat → Int32)} (hC : CP (tnp T) a v.1 v.2) (hd : BP (tnp T) a.1 1 pd) (hs : ∀ p, p < tnp T → a.1 p ≤ 2) {k : Nat} (h : k < tnp T) :
    CP (tnp T) (sDrum T k a) (b_X2_wakeDrums_2 pd (nI (tnp T)) lk kd k v).1 (b_X2_wakeDrums_2 pd (nI (tnp T)) lk kd k v).2 := by
  have h6 := hT.1
  have h3 := (hT.2.2.1 k h).2.2
  have hsk := hs k h
  dsimp only [b_X2_wakeDrums_2, lxb, f_X2_isTired]
  rw [at_in (show k < 6 by omega) (by decide), at_in (show k < 6 by omega) (by decide), (hk k h).1, (hk k h).2, hasP (by omega) (by omega), hC.1.play (show tlk T k < 6 by omega), hC.1.play (show k < 6 by omega), hd.paid (show k < 6 by omega)]
  unfold sDrum
  by_cases c1 : tkd T k = 3
  · rw [if_pos (show nI (tkd T k) = (3 : Int32) by rw [c1]; rfl)]
    by_cases c2 : a.1 k = 2
    · rw [if_neg (show ¬ (k < tnp T ∧ a.1 k = 0) from fun q => by omega), if_neg (show ¬ (k < tnp T ∧ a.1 k = 1) from fun q => by omega), if_pos rfl, if_pos rfl, if_neg (show ¬ (1 : Int32) = 0 by decide)]
      by_cases c3 : tlk T k < tnp T
      · rw [if_pos c3, if_neg (show ¬ (1 : Int32) = 0 by decide)]
        by_cases c4 : a.1 (tlk T k) = 0
        · rw [if_pos (show tlk T k < tnp T ∧ a.1 (tlk T k) = 0 from ⟨c3, c4⟩), if_neg (show ¬ (1 : Int32) = 0 by decide), if_pos ⟨c2, c1, c3, c4⟩, put_in (show k < 6 by omega) (by decide)]
          exact ⟨hC.1.wake (show k < 6 by omega) h, wi_up hC.2 k 2⟩
        · rw [if_neg (show ¬ (tlk T k < tnp T ∧ a.1 (tlk T k) = 0) from fun q => c4 q.2), if_pos rfl, if_neg (fun q => c4 q.2.2.2)]
          exact hC
      · rw [if_neg c3, if_pos rfl, if_neg (fun q => c3 q.2.2.1)]
        exact hC
    · rw [if_neg (fun q => c2 q.1)]
      have : (if (if k < tnp T ∧ a.1 k = 0 then (1 : Int32) else 0) = 0 then (if (if k < tnp T ∧ a.1 k = 1 then (1 : Int32) else 0) = 0 then (1 : Int32) else 0) else 0) = 0 := by
        by_cases d : a.1 k = 0
        · rw [if_pos (show k < tnp T ∧ a.1 k = 0 from ⟨h, d⟩), if_neg (by decide)]
        · rw [if_neg (show ¬ (k < tnp T ∧ a.1 k = 0) from fun q => d q.2), if_pos rfl, if_pos (show k < tnp T ∧ a.1 k = 1 from ⟨h, by omega⟩), if_neg (by decide)]
      rw [this, if_pos rfl]
      exact hC
  · rw [if_neg (show ¬ nI (tkd T k) = (3 : Int32) from fun q => c1 ((nI_eq (show tkd T k < 2 ^ 31 by omega) (show 3 < 2 ^ 31 by decide)).mp q)), if_neg (fun q => c1 q.2.1)]
    exact hC
theorem sDrum_ok {T : TDt} {a : AT} {n : Nat} (h : ∀ p, p < n → a.1 p ≤ 2 ∧ a.2 p ≤ 9) (k : Nat) : (∀ p, p < n → (sDrum T k a).1 p ≤ 2 ∧ (sDrum T k a).2 p ≤ 9) ∧ ∀ p, (sDrum T k a).1 p = 1 ↔ a.1 p = 1 := by
  unfold sDrum
  by_cases c : a.1 k = 2 ∧ tkd T k = 3 ∧ tlk T k < tnp T ∧ a.1 (tlk T k) = 0
  · rw [if_pos c]
    refine ⟨fun p hp => ?_, fun p => ?_⟩
    · have := h p hp
      show va_up a.1 k 0 p ≤ 2 ∧ va_up a.2 k 2 p ≤ 9
      unfold va_up; split <;> omega
    · show va_up a.1 k 0 p = 1 ↔ _
      unfold va_up
      split
      · rename_i e; subst e; rw [c.1]; simp
      · rfl
  · rw [if_neg c]; exact ⟨h, fun _ => Iff.rfl⟩
theorem aDrum_ok {T : TDt} {a : AT} {n : Nat} (h : ∀ p, p < n → a.1 p ≤ 2 ∧ a.2 p ≤ 9) : ∀ k, (∀ p, p < n → (aDrum T a k).1 p ≤ 2 ∧ (aDrum T a k).2 p ≤ 9) ∧ ∀ p, (aDrum T a k).1 p = 1 ↔ a.1 p = 1
  | 0 => ⟨h, fun _ => Iff.rfl⟩
  | k + 1 => by
    obtain ⟨h1, h2⟩ := aDrum_ok h k
    obtain ⟨h3, h4⟩ := sDrum_ok (T := T) h1 k
    exact ⟨h3, fun p => (h4 p).trans (h2 p)⟩
theorem c_drum {T : TDt} (hT : TW T) {kd lk : Nat → Int32} (hk : ∀ p, p < tnp T → kd p = nI (tkd T p) ∧ lk p = nI (tlk T p)) {a : AT} {pd : Int32} {v : Int32 × (Nat → Int32)} (hC : CP (tnp T) a v.1 v.2) (hd : BP (tnp T) a.1 1 pd) (hs : ∀ p, p < tnp T → a.1 p ≤ 2 ∧ a.2 p ≤ 9) : ∀ k, k ≤ tnp T →
    CP (tnp T) (aDrum T a k) (l_X2_wakeDrums_2 pd (nI (tnp T)) lk kd v k).1 (l_X2_wakeDrums_2 pd (nI (tnp T)) lk kd v k).2
  | 0, _ => hC
  | k + 1, h => c_drum_step hT hk (c_drum hT hk hC hd hs k (by omega)) (hd.keep fun p _ => (aDrum_ok hs k).2 p) (fun p hp => ((aDrum_ok hs k).1 p hp).1) (by omega)
/-! ### the whole bar -/
def CM (T : TDt) (a : AS) (pl pd nx tk ht tm : Int32) (wi : Nat → Int32) : Prop := CP (tnp T) (a.1, a.2.1) pl wi ∧ BP (tnp T) a.1 1 pd ∧ nx = nI a.2.2.1 ∧ tk = a.2.2.2.1 ∧ ht = nI a.2.2.2.2.1 ∧ tm = a.2.2.2.2.2
theorem many_le (st : Nat → Nat) : ∀ n, aMany st n ≤ n
  | 0 => Nat.le_refl _
  | n + 1 => by have := many_le st n; unfold aMany; split <;> omega
theorem many_0 {st : Nat → Nat} : ∀ {n}, aMany st n = 0 ↔ ∀ p, p < n → ¬ st p = 0
  | 0 => by simp [aMany]
  | n + 1 => by
    unfold aMany
    by_cases c : st n = 0
    · rw [if_pos c]
      exact ⟨fun q => by omega, fun q => absurd c (q n (by omega))⟩
    · rw [if_neg c, Nat.add_zero, many_0 (n := n)]
      exact ⟨fun q p hp => by
        rcases Nat.lt_or_eq_of_le (show p ≤ n by omega) with w | w
        · exact q p w
        · rw [w]; exact c, fun q p hp => q p (by omega)⟩
theorem mask_0 : ∀ m, m < 64 → (∀ p, p < 6 → m.testBit p = false) → m = 0 := by decide +kernel
theorem BP.zero {n : Nat} {st : Nat → Nat} {x : Int32} (hn : n ≤ 6) (h : BP n st 0 x) : x = 0 ↔ aMany st n = 0 := by
  obtain ⟨m, h1, h2, h3⟩ := h
  rw [h2, nI_z (by omega), many_0]
  constructor
  · intro q p hp c
    have := h3 p (by omega)
    rw [q, Nat.zero_testBit] at this
    simp [hp, c] at this
  · intro q
    exact mask_0 m h1 (fun p hp => by
      rw [h3 p hp]
      by_cases c : p < n
      · simp [c, q p c]
      · simp [c])
theorem c_silent {T : TDt} (hT : TW T) {a : AS} (hA : AW T a) {pl nx : Int32} (hp : BP (tnp T) a.1 0 pl) (hn : nx = nI a.2.2.1) : f_X2_isSilent pl nx (nI (tnb T)) = if aSilent T a = true then 1 else 0 := by
  have h8 := hT.2.1
  have h9 := hA.2.1
  unfold f_X2_isSilent aSilent
  by_cases c : aMany a.1 (tnp T) = 0
  · rw [if_pos ((hp.zero hT.1).mpr c)]; simp [c]
  · rw [if_neg (fun q => c ((hp.zero hT.1).mp q)), hn]
    by_cases d : a.2.2.1 < tnb T
    · rw [if_pos (nI_lt d (by omega))]
      simp [c, d]
    · rw [if_neg (nI_nlt (by omega) (by omega))]
      simp [c, Nat.le_of_not_lt d]
theorem c_turn {T : TDt} (hT : TW T) {rp : Nat → Int32} (hr : ∀ b, b < tnb T → rp b = nI (trp T b)) {nx : Nat} (h : nx < tnb T) (tk : Int32) : f_X2_turnPage (nI nx) tk (nI (tnb T)) rp = (nI (aTurn T nx tk).1, (aTurn T nx tk).2) := by
  have h8 := hT.2.1
  have h7 := (hT.2.2.2 nx h).2
  dsimp only [f_X2_turnPage, lxb]
  rw [at_in (show nx < 8 by omega) (by decide), hr nx h]
  have tb : ∀ r, r < 8 → ∀ n, n < 9 → f_X3_hasBar (nI r - 1) (nI n) = if 1 ≤ r ∧ r ≤ n then 1 else 0 := by decide +kernel
  rw [tb _ (by omega) _ (by omega)]
  unfold aTurn
  by_cases c : 1 ≤ trp T nx ∧ trp T nx ≤ tnb T
  · rw [if_pos c, if_neg (show ¬ (1 : Int32) = 0 by decide)]
    unfold f_X2_isTaken aTaken
    by_cases d : (tk >>> (nI nx &&& 31)) &&& 1 = 1
    · rw [if_pos d, if_neg (show ¬ (1 : Int32) = 0 by decide), if_neg (by simp [d])]
      rw [nI_1]
    · rw [if_neg d, if_pos rfl, if_pos (by simp [c, d]), show (1 : Int32) = nI 1 from rfl, pk_sub (by omega)]
  · rw [if_neg c, if_pos rfl, if_neg (fun q => c q.1), nI_1]
