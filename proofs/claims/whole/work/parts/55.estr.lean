/-! fractions, and strings that break -/
theorem c_fr0 (x0 x1 x2 : Int32) (a : Nat) : ∀ f k, l_X4_fraction_11 x0 x1 x2 f k (nI a, 0) = if 1 ≤ nI a then (if x2 = 0 then x1 / nI a else x0 / nI a) else (-2)
  | 0, _ => rfl
  | f + 1, k => by
    rw [l_X4_fraction_11]
    exact if_pos (show (0 : Int32) ≤ 0 by decide)
theorem c_fr1 (x0 x1 x2 : Int32) {a b : Nat} (ha : a < 2147483648) (hb : b < 2147483648) (h0 : 0 < b) (f k : Nat) : l_X4_fraction_11 x0 x1 x2 (f + 1) k (nI a, nI b) = l_X4_fraction_11 x0 x1 x2 f (k + 1) (nI b, nI (a % b)) := by
  have c : ¬ nI b = 0 := nI_ne0 h0 (by omega)
  have e := (mRem0 (x := nI a) (y := nI b) rfl ha rfl hb c rfl).1
  rw [l_X4_fraction_11]
  dsimp only
  rw [if_neg (show ¬ nI b ≤ 0 from nI_nle h0 (by omega)), lxb_y, e]
theorem mod_half {b c n : Nat} (h0 : 0 < c) (h : c < b) (h2 : b < 2 * n) : b % c < n := by
  have h1 := Nat.mod_lt b h0
  have h3 := Nat.div_add_mod b c
  have h4 : 1 ≤ b / c := Nat.div_pos (by omega) h0
  have h5 : c * 1 ≤ c * (b / c) := Nat.mul_le_mul_left c h4
  omega
theorem c_frL (x0 x1 x2 : Int32) : ∀ (n f k a b : Nat), b < 2 ^ n → a < 2147483648 → b < 2147483648 → 2 * n ≤ f → l_X4_fraction_11 x0 x1 x2 f k (nI a, nI b) = if 1 ≤ nI (Nat.gcd b a) then (if x2 = 0 then x1 / nI (Nat.gcd b a) else x0 / nI (Nat.gcd b a)) else (-2) := by
  intro n
  induction n with
  | zero =>
    intro f k a b h ha hb hf
    have : b = 0 := by omega
    subst this
    rw [show nI 0 = 0 from rfl, c_fr0, Nat.gcd_zero_left]
  | succ n ih =>
    intro f k a b h ha hb hf
    rcases Nat.eq_zero_or_pos b with q | q
    · subst q
      rw [show nI 0 = 0 from rfl, c_fr0, Nat.gcd_zero_left]
    · obtain ⟨f, rfl⟩ : ∃ g, f = g + 1 := ⟨f - 1, by omega⟩
      have h1 := Nat.mod_lt a q
      rw [c_fr1 x0 x1 x2 ha hb q, Nat.gcd_rec b a]
      rcases Nat.eq_zero_or_pos (a % b) with q2 | q2
      · rw [q2, show nI 0 = 0 from rfl, c_fr0, Nat.gcd_zero_left]
      · obtain ⟨f, rfl⟩ : ∃ g, f = g + 1 := ⟨f - 1, by omega⟩
        have h2 := Nat.mod_lt b q2
        rw [c_fr1 x0 x1 x2 hb (by omega) q2, Nat.gcd_rec (a % b) b]
        exact ih f _ _ _ (mod_half q2 h1 (by rw [Nat.pow_succ] at h; omega)) (by omega) (by omega) (by omega)
theorem e_frac {x0 x1 x2 : Int32} {b : Nat} (hx : -2147483648 < x0.toInt) (e1 : x1 = nI b) (h0 : 0 < b) (hb : b < 2 ^ 20) : f_X4_fraction x0 x1 x2 = if x2 = 0 then x1 / f_X5_common x0 x1 else x0 / f_X5_common x0 x1 := by
  subst e1
  obtain ⟨a, ha, ea⟩ := mAbs hx (z := if 0 ≤ x0 then x0 else (-x0)) rfl
  have hb2 : b < 1048576 := hb
  have g1 := Nat.gcd_pos_of_pos_left a h0
  have g2 := Nat.gcd_le_left a h0
  have m : f_X5_common x0 (nI b) = nI (Nat.gcd b a) := by
    show l_X5_common_13 ((Int32.toInt (nI b)).toNat + 1) (if 0 ≤ x0 then x0 else (-x0), nI b) = _
    rw [ea, nI_toInt (by omega), mCommonL _ a b (by omega) ha (by omega)]
  have c : f_X4_fraction x0 (nI b) x2 = l_X4_fraction_11 x0 (nI b) x2 64 0 (nI a, nI b) := by
    unfold f_X4_fraction
    rw [lxb_y, show itn 0 64 = 64 by decide +kernel, Int32.zero_sub, ea]
  rw [c, c_frL x0 (nI b) x2 20 64 0 a b hb ha (by omega) (by omega), if_pos (show (1 : Int32) ≤ nI (Nat.gcd b a) from nI_le (a := 1) g1 (by omega)), m]
def wN (x m c : Nat) : Nat := x ^ c * (10 - x) ^ (m - c)
theorem tb_wc : ∀ x, x < 11 → ∀ m, m < 7 → ∀ c, c < 7 → c ≤ m → f_X4_power (nI x) (nI c) * f_X4_power (10 - nI x) (nI m - nI c) = nI (wN x m c) := by decide +kernel
theorem tb_wm : ∀ x, x < 11 → ∀ m, m < 7 → ∀ c, c < 7 → c ≤ m → f_X5_power (nI x) (nI c) * f_X5_power (10 - nI x) (nI m - nI c) = nI (wN x m c) := by decide +kernel
theorem tb_10 : ∀ m, m < 7 → f_X4_power 10 (nI m) = nI (10 ^ m) := by decide +kernel
def subB (w k : Nat) : Bool := decide (k &&& (63 ^^^ w) = 0)
def allN (x w : Nat) : Nat → Nat
  | 0 => 0
  | k + 1 => allN x w k + if subB w k = true then wN x (bcnt w) (bcnt k) else 0
set_option maxRecDepth 100000 in
theorem tb_all : ∀ x, x < 11 → ∀ w, w < 64 → allN x w 64 = 10 ^ bcnt w := by decide +kernel
set_option maxRecDepth 100000 in
theorem tb_subc : ∀ w, w < 64 → ∀ k, k < 64 → subB w k = true → bcnt k ≤ bcnt w := by decide +kernel
theorem allN_far {n x w : Nat} (hn : n < 7) (hw : w < 2 ^ n) : ∀ d, 2 ^ n + d ≤ 64 → allN x w (2 ^ n + d) = allN x w (2 ^ n)
  | 0, _ => rfl
  | d + 1, h => by
    rw [← Nat.add_assoc, allN, if_neg (show ¬ subB w (2 ^ n + d) = true from fun q => tb_far n hn w hw (2 ^ n + d) (by omega) (by omega) (of_decide_eq_true q)), Nat.add_zero, allN_far hn hw d (by omega)]
def aTorn (T : TDt) (a : AS) (n k : Nat) : Bool := aSilent T (aGo T (aTireSet a k) n)
def strN (T : TDt) (a : AS) (n x : Nat) : Nat → Nat
  | 0 => 0
  | k + 1 => strN T a n x k + if aSub T a k = true ∧ aTorn T a n k = true then wN x (bcnt (aWho a.1 0 (tnp T))) (bcnt k) else 0
theorem strN_le {T : TDt} {a : AS} {n x : Nat} : ∀ k, strN T a n x k ≤ allN x (aWho a.1 0 (tnp T)) k
  | 0 => Nat.le_refl _
  | k + 1 => by
    have := strN_le (T := T) (a := a) (n := n) (x := x) k
    rw [strN, allN]
    by_cases c : aSub T a k = true
    · rw [if_pos (show subB (aWho a.1 0 (tnp T)) k = true from c)]
      split <;> omega
    · rw [if_neg (fun q => c q.1)]
      omega
theorem strN_far {T : TDt} (hT : TW T) {a : AS} {n x : Nat} : ∀ d, 2 ^ tnp T + d ≤ 64 → strN T a n x (2 ^ tnp T + d) = strN T a n x (2 ^ tnp T)
  | 0, _ => rfl
  | d + 1, h => by
    rw [← Nat.add_assoc, strN, if_neg (fun q => by rw [aSub_far hT (by omega) (by omega)] at q; exact absurd q.1 (by decide)), Nat.add_zero, strN_far hT d (by omega)]
