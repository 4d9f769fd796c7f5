/-! gifts, pay, rest, again, a doing, a night: the class's moment -/
def aGive (a : AS) (n : Nat) : AS := (a.1, a.2.1, a.2.2.1, a.2.2.2.1, min 99 (a.2.2.2.2.1 + n), a.2.2.2.2.2)
def aCanPay (T : TDt) (a : AS) (p : Nat) : Bool := decide (p < tnp T) && decide (a.1 p = 0) && decide (tpr T p ≤ a.2.2.2.2.1)
def aPay (T : TDt) (a : AS) (p : Nat) : AS := (va_up a.1 p 1, a.2.1, a.2.2.1, a.2.2.2.1, a.2.2.2.2.1 - tpr T p, a.2.2.2.2.2)
def aCanRest (T : TDt) (a : AS) (p : Nat) : Bool := decide (p < tnp T) && decide (a.1 p = 2) && decide (0 < twd T p)
def aRest (T : TDt) (a : AS) (p : Nat) : AS := (va_up a.1 p 0, va_up a.2.1 p (twd T p), a.2.2)
def aAgain (a : AS) : AS := (a.1, a.2.1, 0, 0, a.2.2.2.2)
theorem aGive_ok {T : TDt} {a : AS} (hA : AW T a) (n : Nat) : AW T (aGive a n) := ⟨hA.1, hA.2.1, Nat.min_le_left _ _⟩
theorem aPay_ok {T : TDt} {a : AS} (hA : AW T a) (p : Nat) : AW T (aPay T a p) := ⟨fun q hq => by
  have := hA.1 q hq
  refine ⟨?_, this.2⟩
  show va_up a.1 p 1 q ≤ 2
  unfold va_up; split <;> omega, hA.2.1, Nat.le_trans (Nat.sub_le _ _) hA.2.2⟩
theorem aRest_ok {T : TDt} (hT : TW T) {a : AS} (hA : AW T a) {p : Nat} (h : p < tnp T) : AW T (aRest T a p) := ⟨fun q hq => by
  have h1 := hA.1 q hq
  have h2 := (hT.2.2.1 p h).2.1
  show va_up a.1 p 0 q ≤ 2 ∧ va_up a.2.1 p (twd T p) q ≤ 9
  unfold va_up; split <;> omega, hA.2⟩
theorem aAgain_ok {T : TDt} {a : AS} (hA : AW T a) : AW T (aAgain a) := ⟨hA.1, Nat.zero_le _, hA.2.2⟩
theorem c_give {T : TDt} {a : AS} (hA : AW T a) {pl pd nx tk ht tm : Int32} {wi : Nat → Int32} (hC : CM T a pl pd nx tk ht tm wi) {n : Nat} (hn : n < 2 ^ 31) {r : Int32 × Int32} (er : r = f_X2_takeGift (nI n) ht) :
    (1 ≤ n ∧ n ≤ 9 → r.1 = 1 ∧ CM T (aGive a n) pl pd nx tk r.2 tm wi) ∧ (¬ (1 ≤ n ∧ n ≤ 9) → r = (0, ht)) := by
  subst er
  have h9 := hA.2.2
  dsimp only [f_X2_takeGift, lxb]
  by_cases c1 : n < 1
  · rw [if_pos (show nI n < (1 : Int32) from nI_lt (b := 1) c1 (by decide))]
    exact ⟨fun q => by omega, fun _ => rfl⟩
  · rw [if_neg (show ¬ nI n < (1 : Int32) from nI_nlt (b := 1) (by omega) hn)]
    by_cases c2 : n ≤ 9
    · rw [if_pos (show nI n ≤ (9 : Int32) from nI_le (b := 9) c2 (by decide)), hC.2.2.2.2.1, nI_add]
      refine ⟨fun _ => ⟨rfl, hC.1, hC.2.1, hC.2.2.1, hC.2.2.2.1, ?_, hC.2.2.2.2.2⟩, fun q => by omega⟩
      show (if nI (a.2.2.2.2.1 + n) < 99 then nI (a.2.2.2.2.1 + n) else 99) = nI (min 99 (a.2.2.2.2.1 + n))
      by_cases c3 : a.2.2.2.2.1 + n < 99
      · rw [if_pos (show nI (a.2.2.2.2.1 + n) < (99 : Int32) from nI_lt (b := 99) c3 (by decide)), Nat.min_eq_right (by omega)]
      · rw [if_neg (show ¬ nI (a.2.2.2.2.1 + n) < (99 : Int32) from nI_nlt (b := 99) (by omega) (by omega)), Nat.min_eq_left (by omega)]; rfl
    · rw [if_neg (show ¬ nI n ≤ (9 : Int32) from nI_ge (b := n) (a := 9) (by omega) hn)]
      exact ⟨fun q => by omega, fun _ => rfl⟩
theorem two_pow_64 {p : Nat} (h : p < 6) : 2 ^ p < 64 := by
  rcases (show p = 0 ∨ p = 1 ∨ p = 2 ∨ p = 3 ∨ p = 4 ∨ p = 5 by omega) with rfl | rfl | rfl | rfl | rfl | rfl <;> decide
theorem tb_pow {p q : Nat} : (2 ^ p).testBit q = decide (p = q) := Nat.testBit_two_pow
theorem paySet_pow {a : AS} {p : Nat} : aPaySet a (2 ^ p) = (va_up a.1 p 1, a.2) := by
  unfold aPaySet
  congr 1
  funext q
  rw [tb_pow]
  unfold va_up
  by_cases c : p = q
  · simp [c]
  · have : ¬ q = p := fun e => c e.symm
    simp [c, this]
theorem c_pay {T : TDt} (hT : TW T) {a : AS} (hA : AW T a) {players bars pl pd nx tk ht tm : Int32} {pr wd kd lk no rp wi : Nat → Int32} (hc : CT T players bars pr wd kd lk no rp) (hC : CM T a pl pd nx tk ht tm wi) {p : Nat} (hp : p < 2 ^ 31) {r : Int32 × Int32 × Int32 × Int32} (er : r = f_X2_payFromHat (nI p) pl pd ht players pr) :
    (aCanPay T a p = true → r.1 = 1 ∧ CM T (aPay T a p) r.2.1 r.2.2.1 nx tk r.2.2.2 tm wi) ∧ (¬ aCanPay T a p = true → r = (0, pl, pd, ht)) := by
  subst er
  have h6 := hT.1
  have h9 := hA.2.2
  dsimp only [f_X2_payFromHat, lxb]
  rw [hc.1, hasP hp (by omega)]
  unfold aCanPay
  by_cases c1 : p < tnp T
  · have h3 := (hT.2.2.1 p c1).1
    rw [if_pos c1, if_neg (show ¬ (1 : Int32) = 0 by decide), hC.1.1.play (show p < 6 by omega)]
    by_cases c2 : a.1 p = 0
    · rw [if_pos (show p < tnp T ∧ a.1 p = 0 from ⟨c1, c2⟩), if_neg (show ¬ (1 : Int32) = 0 by decide), at_in (show p < 6 by omega) (by decide), (hc.2.2.1 p c1).1, hC.2.2.2.2.1]
      by_cases c3 : tpr T p ≤ a.2.2.2.2.1
      · rw [if_pos (nI_le c3 (by omega)), tb_one p (by omega)]
        refine ⟨fun _ => ⟨rfl, ?_⟩, fun q => by simp [c1, c2, c3] at q⟩
        have h := c_payFreely hC (two_pow_64 (show p < 6 by omega)) (fun q _ e => by rw [tb_pow] at e; have := of_decide_eq_true e; omega) (r := f_X2_payFreely (nI (2 ^ p)) pl pd) rfl
        rw [paySet_pow] at h
        exact ⟨h.1, h.2.1, h.2.2.1, h.2.2.2.1, pk_sub c3, h.2.2.2.2.2⟩
      · rw [if_neg (nI_ge (by omega) (by omega))]
        exact ⟨fun q => by simp [c3] at q, fun _ => rfl⟩
    · rw [if_neg (show ¬ (p < tnp T ∧ a.1 p = 0) from fun q => c2 q.2), if_pos rfl]
      exact ⟨fun q => by simp [c2] at q, fun _ => rfl⟩
  · rw [if_neg c1, if_pos rfl]
    exact ⟨fun q => by simp [c1] at q, fun _ => rfl⟩
theorem c_tired {T : TDt} (hT : TW T) {a : AS} (hA : AW T a) {pl pd : Int32} (h0 : BP (tnp T) a.1 0 pl) (h1 : BP (tnp T) a.1 1 pd) {p : Nat} (h : p < tnp T) : f_X2_isTired (nI p) pl pd = if a.1 p = 2 then 1 else 0 := by
  have h6 := hT.1
  have hs := (hA.1 p h).1
  dsimp only [f_X2_isTired, lxb]
  rw [h0.play (show p < 6 by omega), h1.paid (show p < 6 by omega)]
  by_cases c : a.1 p = 0
  · rw [if_pos (show p < tnp T ∧ a.1 p = 0 from ⟨h, c⟩), if_neg (show ¬ (1 : Int32) = 0 by decide), if_neg (by omega)]
  · rw [if_neg (show ¬ (p < tnp T ∧ a.1 p = 0) from fun q => c q.2), if_pos rfl]
    by_cases d : a.1 p = 1
    · rw [if_pos (show p < tnp T ∧ a.1 p = 1 from ⟨h, d⟩), if_neg (show ¬ (1 : Int32) = 0 by decide), if_neg (by omega)]
    · rw [if_neg (show ¬ (p < tnp T ∧ a.1 p = 1) from fun q => d q.2), if_pos rfl, if_pos (by omega)]
theorem c_rest {T : TDt} (hT : TW T) {a : AS} (hA : AW T a) {players bars pl pd nx tk ht tm : Int32} {pr wd kd lk no rp wi : Nat → Int32} (hc : CT T players bars pr wd kd lk no rp) (hC : CM T a pl pd nx tk ht tm wi) {p : Nat} (hp : p < 2 ^ 31) {r : Int32 × Int32 × (Nat → Int32)} (er : r = f_X2_restPlayer (nI p) pl pd players wd wi) :
    (aCanRest T a p = true → r.1 = 1 ∧ CM T (aRest T a p) r.2.1 pd nx tk ht tm r.2.2) ∧ (¬ aCanRest T a p = true → r = (0, pl, wi)) := by
  subst er
  have h6 := hT.1
  dsimp only [f_X2_restPlayer, lxb]
  rw [hc.1, hasP hp (by omega)]
  unfold aCanRest
  by_cases c1 : p < tnp T
  · have h3 := (hT.2.2.1 p c1).2.1
    rw [if_pos c1, if_neg (show ¬ (1 : Int32) = 0 by decide), c_tired hT hA hC.1.1 hC.2.1 c1]
    by_cases c2 : a.1 p = 2
    · rw [if_pos c2, if_neg (show ¬ (1 : Int32) = 0 by decide), at_in (show p < 6 by omega) (by decide), (hc.2.2.1 p c1).2.1]
      by_cases c3 : 0 < twd T p
      · rw [if_neg (show ¬ nI (twd T p) = 0 from nI_ne0 c3 (by omega)), put_in (show p < 6 by omega) (by decide)]
        refine ⟨fun _ => ⟨rfl, ⟨hC.1.1.wake (show p < 6 by omega) c1, wi_up hC.1.2 p _⟩, hC.2.1.keep fun q _ => ?_, hC.2.2⟩, fun q => by simp [c1, c2, c3] at q⟩
        show va_up a.1 p 0 q = 1 ↔ _
        unfold va_up
        split
        · rename_i e; subst e; rw [c2]; simp
        · rfl
      · rw [if_pos (show nI (twd T p) = 0 by rw [show twd T p = 0 by omega]; rfl)]
        exact ⟨fun q => by simp [c3] at q, fun _ => rfl⟩
    · rw [if_neg c2, if_pos rfl]
      exact ⟨fun q => by simp [c2] at q, fun _ => rfl⟩
  · rw [if_neg c1, if_pos rfl]
    exact ⟨fun q => by simp [c1] at q, fun _ => rfl⟩
theorem c_again {T : TDt} {a : AS} {players bars pl pd nx tk ht tm : Int32} {pr wd kd lk no rp wi : Nat → Int32} (hT : TW T) (hc : CT T players bars pr wd kd lk no rp) (hC : CM T a pl pd nx tk ht tm wi) {r : Int32 × Int32 × Int32} (er : r = f_X2_beginAgain nx tk bars) :
    (¬ tnb T = 0 → r.1 = 1 ∧ CM T (aAgain a) pl pd r.2.1 r.2.2 ht tm wi) ∧ (tnb T = 0 → r = (0, nx, tk)) := by
  subst er
  have h8 := hT.2.1
  unfold f_X2_beginAgain
  rw [hc.2.1]
  by_cases c : tnb T = 0
  · rw [if_pos ((nI_z (by omega)).mpr c)]
    exact ⟨fun q => absurd c q, fun _ => rfl⟩
  · rw [if_neg (fun q => c ((nI_z (by omega)).mp q))]
    exact ⟨fun _ => ⟨rfl, hC.1, hC.2.1, rfl, rfl, hC.2.2.2.2⟩, fun q => absurd q c⟩
/-- a doing told by three figures: whether it can be, and what is then -/
def aOk (T : TDt) (a : AS) (h x y : Nat) : Bool :=
  if h = 0 then decide (x = 0) && decide (y = 0) && !aSilent T a
  else if h = 1 then decide (x = 0) && decide (1 ≤ y)
  else if h = 2 then decide (x = 0) && aCanPay T a y
  else if h = 3 then decide (x = 0) && aCanRest T a y
  else if h = 4 then decide (x = 0) && (decide (y < tnp T) && decide (a.1 y = 0))
  else if h = 5 then decide (10 * x + y ≤ a.2.2.2.2.1)
  else false
def aDo (T : TDt) (a : AS) (h y : Nat) : AS := if h = 0 then aPass T a else if h = 1 then aGive a y else if h = 2 then aPay T a y else if h = 3 then aRest T a y else a
theorem aDo_ok {T : TDt} (hT : TW T) {a : AS} (hA : AW T a) {h x y : Nat} (ok : aOk T a h x y = true) : AW T (aDo T a h y) := by
  unfold aDo aOk at *
  by_cases c0 : h = 0
  · rw [if_pos c0]; exact aPass_ok hA
  · by_cases c1 : h = 1
    · rw [if_neg c0, if_pos c1]; exact aGive_ok hA y
    · by_cases c2 : h = 2
      · rw [if_neg c0, if_neg c1, if_pos c2]; exact aPay_ok hA y
      · by_cases c3 : h = 3
        · rw [if_neg c0, if_neg c1, if_neg c2, if_pos c3] at ok
          rw [if_neg c0, if_neg c1, if_neg c2, if_pos c3]
          unfold aCanRest at ok
          simp at ok
          exact aRest_ok hT hA ok.2.1.1
        · rw [if_neg c0, if_neg c1, if_neg c2, if_neg c3]; exact hA
