def f_X5_tryThing (x0 : Int32) (x1 : Int32) (x2 : Int32) (o_players : Int32) (o_bars : Int32) (o_now_v : Nat → Int32) (o_noise_v : Nat → Int32) (o_kind_v : Nat → Int32) (o_looks_v : Nat → Int32) (o_repeat_v : Nat → Int32) (o_price_v : Nat → Int32) (o_breath_v : Nat → Int32) : Int32 × (Nat → Int32) :=
  if x0 = 0 then (if x1 = 0 then (if x2 = 0 then (lxb (f_X5_isSilent 1 o_players o_bars o_now_v) (fun r5 =>
     if r5 = 0 then (lxb (f_X5_passOn 1 o_players o_bars o_now_v o_noise_v o_kind_v o_looks_v o_repeat_v) (fun r8 =>
       (1, r8.2)))
      else lxb (f_X5_passOn 1 o_players o_bars o_now_v o_noise_v o_kind_v o_looks_v o_repeat_v) (fun r6 =>
       (0, r6.2))))
    else lxb (f_X5_passOn 1 o_players o_bars o_now_v o_noise_v o_kind_v o_looks_v o_repeat_v) (fun r3 =>
     (0, r3.2)))
   else lxb (f_X5_passOn 1 o_players o_bars o_now_v o_noise_v o_kind_v o_looks_v o_repeat_v) (fun r1 =>
    (0, r1.2)))
  else if x0 = 1 then (if x1 = 0 then (if x2 ≤ 0 then (lxb (f_X5_giveOn 1 x2 o_now_v) (fun r12 =>
      (0, r12)))
     else lxb (f_X5_giveOn 1 x2 o_now_v) (fun r14 =>
      (1, r14)))
    else lxb (f_X5_giveOn 1 x2 o_now_v) (fun r10 =>
     (0, r10)))
   else if x0 = 2 then (if x1 = 0 then (lxb (f_X5_canPay 1 x2 o_players o_now_v o_price_v) (fun r16 =>
      if r16 = 0 then (0, o_now_v)
       else lxb (f_X5_payOn 1 x2 o_now_v o_price_v) (fun r17 =>
        (1, r17))))
     else (0, o_now_v))
    else if x0 = 3 then (if x1 = 0 then (lxb (f_X5_canRest 1 x2 o_players o_now_v o_breath_v) (fun r19 =>
       if r19 = 0 then (0, o_now_v)
        else lxb (f_X5_restOn 1 x2 o_now_v o_breath_v) (fun r20 =>
         (1, r20))))
      else (0, o_now_v))
     else if x0 = 4 then (if x1 = 0 then (lxb (f_X5_plays 1 x2 o_players o_now_v) (fun r22 =>
        if r22 = 0 then (0, o_now_v)
         else (1, o_now_v)))
       else (0, o_now_v))
      else if x0 = 5 then (if (o_now_v (Int32.toNatClampNeg 30)) < ((10 * x1) + x2) then (0, o_now_v)
        else (1, o_now_v))
       else (0, o_now_v)

def b_X5_thousandTo_4 (k4 : Nat) (v4 : Int64) : Int64 :=
  (v4 * 1000)
def l_X5_thousandTo_4 (i0 : Int64) : Nat → Int64
  | 0 => i0
  | k + 1 => b_X5_thousandTo_4 k (l_X5_thousandTo_4 i0 k)
def f_X5_thousandTo (x0 : Int32) : Int64 :=
  lxb (l_X5_thousandTo_4 1 (itn 0 x0)) (fun r1 =>
  r1)
theorem mJ {x r : Int32} (er : r = f_X5_in (Int32.toInt64 x) 1 4) (h : ¬ r = 0) : ∃ j, j ≤ 4 ∧ x = nI j := by
  have q := mIn er h
  have h0 : (1 : Int64).toInt = 1 := by decide
  have h1 : (4 : Int64).toInt = 4 := by decide
  rw [h0, h1] at q
  obtain ⟨j, hj, e⟩ := mNat (x := x) (N := 5) (by omega) (by omega) (by decide)
  exact ⟨j, by omega, e⟩
theorem mTh {x : Int32} {n k : Nat} {r : Int64} (e : x = nI n) (hn : n ≤ 4) (hk : k < n) (er : r = f_X5_thousandTo (x - 1 - nI k)) : ¬ r = 0 := by
  have : ∀ n, n < 5 → ∀ k, k < 5 → k < n → ¬ f_X5_thousandTo (nI n - 1 - nI k) = 0 := by decide +kernel
  rw [er, e]
  exact this n (by omega) k (by omega) hk

def l_X5_judge_36 (x0 : Int32) (x1 : Int64) (o_players : Int32) (o_bars : Int32) (o_noise_v : Nat → Int32) (o_kind_v : Nat → Int32) (o_looks_v : Nat → Int32) (o_repeat_v : Nat → Int32) (o_price_v : Nat → Int32) (o_breath_v : Nat → Int32) : Nat → Nat → (Nat → Int32) → Int32 × (Nat → Int32)
  | 0, _, v36 =>
    ((-9), v36)
  | n36 + 1, k36, v36 =>
    lxb (f_X5_thousandTo ((x0 - 1) - nI k36)) (fun r6 =>
    lxb ((Int64.toInt32 ((x1 / r6) - (x1 / r6) / 1000 * 1000))) (fun y7 =>
     lxb (f_X5_tryThing (y7 / 100) ((y7 / 10) - (y7 / 10) / 10 * 10) (y7 - y7 / 10 * 10) o_players o_bars v36 o_noise_v o_kind_v o_looks_v o_repeat_v o_price_v o_breath_v) (fun r8 =>
      if r8.1 = 0 then (nI k36, r8.2)
       else l_X5_judge_36 x0 x1 o_players o_bars o_noise_v o_kind_v o_looks_v o_repeat_v o_price_v o_breath_v n36 (k36 + 1) r8.2)))
def f_X5_judge (x0 : Int32) (x1 : Int64) (o_players : Int32) (o_bars : Int32) (o_now_v : Nat → Int32) (o_noise_v : Nat → Int32) (o_kind_v : Nat → Int32) (o_looks_v : Nat → Int32) (o_repeat_v : Nat → Int32) (o_price_v : Nat → Int32) (o_breath_v : Nat → Int32) : Int32 × (Nat → Int32) :=
  lxb (f_X5_in (Int32.toInt64 x0) 1 4) (fun r1 =>
  if r1 = 0 then ((-2), o_now_v)
   else lxb (f_X5_thousandTo x0) (fun r2 =>
    lxb (f_X5_in x1 0 (r2 - 1)) (fun r3 =>
     if r3 = 0 then ((-2), o_now_v)
      else lxb (f_X5_layTrial o_now_v) (fun r4 =>
       l_X5_judge_36 x0 x1 o_players o_bars o_noise_v o_kind_v o_looks_v o_repeat_v o_price_v o_breath_v (itn 0 x0) 0 r4))))

def f_X5_hear (x0 : Int32) (x1 : Int32) (x2 : Int32) (o_players : Int32) (o_heard : Int32) (o_heardOf_v : Nat → Int32) (o_heardBars_v : Nat → Int32) (o_heardPlays_v : Nat → Int32) : Int32 × Int32 × (Nat → Int32) × (Nat → Int32) × (Nat → Int32) :=
  lxb (f_X5_isPlayer x0 o_players) (fun r1 =>
  if r1 = 0 then ((-1), o_heard, o_heardOf_v, o_heardBars_v, o_heardPlays_v)
   else lxb (f_X5_in (Int32.toInt64 x1) 0 9) (fun r2 =>
    if r2 = 0 then ((-2), o_heard, o_heardOf_v, o_heardBars_v, o_heardPlays_v)
     else lxb (f_X5_in (Int32.toInt64 x2) 0 1) (fun r3 =>
      if r3 = 0 then ((-2), o_heard, o_heardOf_v, o_heardBars_v, o_heardPlays_v)
       else if o_heard = 6 then ((-4), o_heard, o_heardOf_v, o_heardBars_v, o_heardPlays_v)
        else ((o_heard + 1), (o_heard + 1), (upd o_heardOf_v (Int32.toNatClampNeg o_heard) x0), (upd o_heardBars_v (Int32.toNatClampNeg o_heard) x1), (upd o_heardPlays_v (Int32.toNatClampNeg o_heard) x2)))))

def f_X5_unhear (o_heard : Int32) : Int32 × Int32 :=
  (o_heard, 0)

def b_X5_mayBePaid_4 (x0 : Int32) (o_players : Int32) (o_bars : Int32) (o_heardBars_v : Nat → Int32) (o_noise_v : Nat → Int32) (o_kind_v : Nat → Int32) (o_looks_v : Nat → Int32) (o_repeat_v : Nat → Int32) (o_heardOf_v : Nat → Int32) (o_heardPlays_v : Nat → Int32) (k4 : Nat) (v4 : Int32 × (Nat → Int32)) : Int32 × (Nat → Int32) :=
  lxb (f_X5_layTrial v4.2) (fun r1 =>
  lxb (f_X5_makeSome x0 1 o_players r1) (fun r3 =>
   lxb (f_X5_goOn (o_heardBars_v (Int32.toNatClampNeg (nI k4))) o_players o_bars r3 o_noise_v o_kind_v o_looks_v o_repeat_v) (fun r5 =>
    if v4.1 = 0 then (0, r5.2)
     else lxb (f_X5_isPlayer (o_heardOf_v (Int32.toNatClampNeg (nI k4))) o_players) (fun r7 =>
      if r7 = 0 then (1, r5.2)
       else lxb (f_X5_plays 1 (o_heardOf_v (Int32.toNatClampNeg (nI k4))) o_players r5.2) (fun r8 =>
        if (o_heardPlays_v (Int32.toNatClampNeg (nI k4))) = 1 then (if r8 = 1 then (1, r5.2)
          else (0, r5.2))
         else if r8 = 0 then (1, r5.2)
          else (0, r5.2))))))
def l_X5_mayBePaid_4 (x0 : Int32) (o_players : Int32) (o_bars : Int32) (o_heardBars_v : Nat → Int32) (o_noise_v : Nat → Int32) (o_kind_v : Nat → Int32) (o_looks_v : Nat → Int32) (o_repeat_v : Nat → Int32) (o_heardOf_v : Nat → Int32) (o_heardPlays_v : Nat → Int32) (i0 : Int32 × (Nat → Int32)) : Nat → Int32 × (Nat → Int32)
  | 0 => i0
  | k + 1 => b_X5_mayBePaid_4 x0 o_players o_bars o_heardBars_v o_noise_v o_kind_v o_looks_v o_repeat_v o_heardOf_v o_heardPlays_v k (l_X5_mayBePaid_4 x0 o_players o_bars o_heardBars_v o_noise_v o_kind_v o_looks_v o_repeat_v o_heardOf_v o_heardPlays_v i0 k)
def f_X5_mayBePaid (x0 : Int32) (o_players : Int32) (o_bars : Int32) (o_heard : Int32) (o_now_v : Nat → Int32) (o_heardBars_v : Nat → Int32) (o_noise_v : Nat → Int32) (o_kind_v : Nat → Int32) (o_looks_v : Nat → Int32) (o_repeat_v : Nat → Int32) (o_heardOf_v : Nat → Int32) (o_heardPlays_v : Nat → Int32) : Int32 × (Nat → Int32) :=
  lxb (l_X5_mayBePaid_4 x0 o_players o_bars o_heardBars_v o_noise_v o_kind_v o_looks_v o_repeat_v o_heardOf_v o_heardPlays_v (1, o_now_v) (itn 0 o_heard)) (fun r9 =>
  (r9.1, r9.2))

def b_X5_pays_29 (o_players : Int32) (o_bars : Int32) (o_heard : Int32) (o_heardBars_v : Nat → Int32) (o_noise_v : Nat → Int32) (o_kind_v : Nat → Int32) (o_looks_v : Nat → Int32) (o_repeat_v : Nat → Int32) (o_heardOf_v : Nat → Int32) (o_heardPlays_v : Nat → Int32) (r2 : Int32) (k29 : Nat) (v29 : Int32 × Int32 × (Nat → Int32)) : Int32 × Int32 × (Nat → Int32) :=
  if (nI k29 &&& (r2 ^^^ (-1))) = 0 then (lxb (f_X5_mayBePaid (nI k29) o_players o_bars o_heard v29.2.2 o_heardBars_v o_noise_v o_kind_v o_looks_v o_repeat_v o_heardOf_v o_heardPlays_v) (fun r3 =>
   if r3.1 = 0 then (v29.1, v29.2.1, r3.2)
    else lxb (α := Int32) (if v29.1 = 0 then nI k29
      else v29.2.1) (fun z5 =>
     lxb ((v29.1 + 1)) (fun y6 =>
      (y6, z5, r3.2)))))
  else (v29.1, v29.2.1, v29.2.2)
def l_X5_pays_29 (o_players : Int32) (o_bars : Int32) (o_heard : Int32) (o_heardBars_v : Nat → Int32) (o_noise_v : Nat → Int32) (o_kind_v : Nat → Int32) (o_looks_v : Nat → Int32) (o_repeat_v : Nat → Int32) (o_heardOf_v : Nat → Int32) (o_heardPlays_v : Nat → Int32) (r2 : Int32) (i0 : Int32 × Int32 × (Nat → Int32)) : Nat → Int32 × Int32 × (Nat → Int32)
  | 0 => i0
  | k + 1 => b_X5_pays_29 o_players o_bars o_heard o_heardBars_v o_noise_v o_kind_v o_looks_v o_repeat_v o_heardOf_v o_heardPlays_v r2 k (l_X5_pays_29 o_players o_bars o_heard o_heardBars_v o_noise_v o_kind_v o_looks_v o_repeat_v o_heardOf_v o_heardPlays_v r2 i0 k)
def f_X5_pays (x0 : Int32) (o_players : Int32) (o_bars : Int32) (o_heard : Int32) (o_now_v : Nat → Int32) (o_heardBars_v : Nat → Int32) (o_noise_v : Nat → Int32) (o_kind_v : Nat → Int32) (o_looks_v : Nat → Int32) (o_repeat_v : Nat → Int32) (o_heardOf_v : Nat → Int32) (o_heardPlays_v : Nat → Int32) : Int32 × (Nat → Int32) :=
  lxb (f_X5_in (Int32.toInt64 x0) 0 1) (fun r1 =>
  if r1 = 0 then ((-2), o_now_v)
   else lxb (f_X5_whoIs 0 0 o_players o_now_v) (fun r2 =>
    lxb (l_X5_pays_29 o_players o_bars o_heard o_heardBars_v o_noise_v o_kind_v o_looks_v o_repeat_v o_heardOf_v o_heardPlays_v r2 (0, (-9), o_now_v) (itn 0 (1 <<< (o_players &&& 31)))) (fun r7 =>
     if x0 = 0 then (r7.1, r7.2.2)
      else (r7.2.1, r7.2.2))))

def b_X5_factorial_4 (k4 : Nat) (v4 : Int32) : Int32 :=
  (v4 * nI (k4 + 2))
def l_X5_factorial_4 (i0 : Int32) : Nat → Int32
  | 0 => i0
  | k + 1 => b_X5_factorial_4 k (l_X5_factorial_4 i0 k)
def f_X5_factorial (x0 : Int32) : Int32 :=
  lxb (l_X5_factorial_4 1 (itn1 2 x0)) (fun r1 =>
  r1)
theorem mOnesHf {x r : Int32} (er : r = f_X5_ones x) : (Int32.toInt r) + 1 < 2147483648 := by
  obtain ⟨c, hc, e⟩ := mOnes x
  rw [er, e, nI_toInt (by omega)]
  omega
theorem mOnesHf2 {x r y : Int32} {n : Nat} (en : y = nI n) (hn : n ≤ 6) (er : r = f_X5_ones x) : (Int32.toInt (y - 1 - r)) + 1 < 2147483648 := by
  obtain ⟨c, hc, e⟩ := mOnes x
  have : ∀ n, n < 7 → ∀ c, c < 7 → (Int32.toInt (nI n - 1 - nI c)) + 1 < 2147483648 := by decide +kernel
  rw [er, e, en]
  exact this n (by omega) c (by omega)
theorem mPlHf {y : Int32} {n : Nat} (en : y = nI n) (hn : n ≤ 6) : (Int32.toInt y) + 1 < 2147483648 := by
  rw [en, nI_toInt (by omega)]
  omega
theorem mFacPos {y r : Int32} {n : Nat} (en : y = nI n) (hn : n ≤ 6) (er : r = f_X5_factorial y) : 0 < (Int32.toInt r) := by
  have : ∀ n, n < 7 → 0 < (Int32.toInt (f_X5_factorial (nI n))) := by decide +kernel
  rw [er, en]
  exact this n (by omega)

def l_X5_common_13 : Nat → (Int32 × Int32) → Int32
  | 0, _ => 0
  | n13 + 1, v13 =>
    if v13.2 = 0 then v13.1
    else lxb ((v13.1 - v13.1 / v13.2 * v13.2)) (fun y2 =>
     l_X5_common_13 n13 (v13.2, y2))
def f_X5_common (x0 : Int32) (x1 : Int32) : Int32 :=
  lxb (α := Int32) (if 0 ≤ x0 then x0
   else (-x0)) (fun z1 =>
  l_X5_common_13 ((Int32.toInt x1).toNat + 1) (z1, x1))
theorem mAbs {x z : Int32} (h : -2147483648 < x.toInt) (ez : z = if 0 ≤ x then x else (-x)) : ∃ a, a < 2147483648 ∧ z = nI a := by
  have h2 := Int32.toInt_lt x
  have h0 : (0 : Int32).toInt = 0 := rfl
  by_cases c : 0 ≤ x
  · rw [if_pos c] at ez
    rw [Int32.le_iff_toInt_le, h0] at c
    refine ⟨x.toInt.toNat, by omega, ?_⟩
    rw [ez]
    apply Int32.toInt_inj.mp
    rw [nI_toInt (by omega)]
    omega
  · rw [if_neg c] at ez
    rw [Int32.le_iff_toInt_le, h0] at c
    refine ⟨(-x.toInt).toNat, by omega, ?_⟩
    rw [ez]
    apply Int32.toInt_inj.mp
    rw [nI_toInt (by omega), Int32.toInt_neg, Int.bmod_eq_of_le (by omega) (by omega)]
    omega
theorem mRem0 {x y z : Int32} {a b : Nat} (ex : x = nI a) (ha : a < 2147483648) (ey : y = nI b) (hb : b < 2147483648) (c : ¬ y = 0) (ez : z = x - x / y * y) : z = nI (a % b) ∧ a % b < b := by
  have h0 : 0 < b := by
    rcases Nat.eq_zero_or_pos b with q | q
    · exact absurd (by rw [ey, q]; rfl) c
    · exact q
  exact ⟨by rw [ez, ex, ey, pk_rem (by omega) h0 (by omega)], Nat.mod_lt _ h0⟩
theorem mRem {x y z : Int32} {a b : Nat} (ex : x = nI a) (ha : a < 2147483648) (ey : y = nI b) (hb : b < 2147483648) (c : ¬ y = 0) (ez : z = x - x / y * y) : ∃ d, d < 2147483648 ∧ z = nI d :=
  ⟨a % b, by have := (mRem0 ex ha ey hb c ez).2; omega, (mRem0 ex ha ey hb c ez).1⟩
theorem mLess {x y z : Int32} {a b n : Nat} (ex : x = nI a) (ha : a < 2147483648) (ey : y = nI b) (hb : b < 2147483648) (c : ¬ y = 0) (ez : z = x - x / y * y) (hm : (Int32.toInt y).toNat < n + 1) : (Int32.toInt z).toNat < n := by
  obtain ⟨h1, h2⟩ := mRem0 ex ha ey hb c ez
  rw [ey, nI_toInt (by omega)] at hm
  rw [h1, nI_toInt (by omega)]
  omega
theorem mCommonL : ∀ (n a b : Nat), b < n → a < 2147483648 → b < 2147483648 → l_X5_common_13 n (nI a, nI b) = nI (Nat.gcd b a)
  | 0, _, _, h, _, _ => absurd h (Nat.not_lt_zero _)
  | n + 1, a, b, h, ha, hb => by
    rw [l_X5_common_13]
    dsimp only
    rcases Nat.eq_zero_or_pos b with q | q
    · subst q
      rw [if_pos (show nI 0 = 0 from rfl), Nat.gcd_zero_left]
    · have c : ¬ nI b = 0 := nI_ne0 q (by omega)
      have e := (mRem0 (x := nI a) (y := nI b) rfl ha rfl hb c rfl).1
      have h2 := Nat.mod_lt a q
      rw [if_neg c, e]
      show l_X5_common_13 n (nI b, nI (a % b)) = _
      rw [mCommonL n b (a % b) (by omega) hb (by omega), ← Nat.gcd_rec]
theorem mCommon {x y : Int32} {b : Nat} (hx : -2147483648 < (Int32.toInt x)) (ey : y = nI b) (hb : b < 2147483648) : f_X5_common x y = nI (Nat.gcd b x.toInt.natAbs) := by
  obtain ⟨a, ha, ea⟩ := mAbs hx (z := if 0 ≤ x then x else (-x)) rfl
  have e : a = x.toInt.natAbs := by
    have h0 : (0 : Int32).toInt = 0 := rfl
    have h2 := Int32.toInt_lt x
    have h3 := congrArg Int32.toInt ea
    rw [nI_toInt (by omega)] at h3
    by_cases c : 0 ≤ x
    · rw [if_pos c] at h3
      rw [Int32.le_iff_toInt_le, h0] at c
      omega
    · rw [if_neg c, Int32.toInt_neg] at h3
      rw [Int32.le_iff_toInt_le, h0] at c
      rw [Int.bmod_eq_of_le (by omega) (by omega)] at h3
      omega
  show l_X5_common_13 ((Int32.toInt y).toNat + 1) (if 0 ≤ x then x else (-x), y) = _
  rw [ea, ey, nI_toInt (by omega), mCommonL _ a b (by omega) ha hb, e]
theorem mCommonNe {x y r : Int32} (er : r = f_X5_common x y) (hx : -2147483648 < (Int32.toInt x)) (hy : 0 < (Int32.toInt y)) : ¬ r = 0 := by
  obtain ⟨b, hb, eb⟩ := mPos (x := y) (by omega)
  rw [eb, nI_toInt (by omega)] at hy
  rw [er, mCommon hx eb hb]
  have h1 := Nat.gcd_pos_of_pos_left x.toInt.natAbs (show 0 < b by omega)
  have h2 := Nat.gcd_le_left x.toInt.natAbs (show 0 < b by omega)
  exact nI_ne0 h1 (by omega)

def f_X5_noiseBy (x0 : Int32) (o_players : Int32) (o_bars : Int32) (o_now_v : Nat → Int32) (o_noise_v : Nat → Int32) (o_kind_v : Nat → Int32) (o_looks_v : Nat → Int32) (o_repeat_v : Nat → Int32) : Int32 × (Nat → Int32) :=
  lxb (f_X5_layTrial o_now_v) (fun r1 =>
  lxb (f_X5_makeSome (x0 ^^^ (-1)) 1 o_players r1) (fun r3 =>
   lxb (f_X5_goOn 6 o_players o_bars r3 o_noise_v o_kind_v o_looks_v o_repeat_v) (fun r5 =>
    (r5.1, r5.2))))

def b_X5_share_15 (x0 : Int32) (o_players : Int32) (o_bars : Int32) (o_noise_v : Nat → Int32) (o_kind_v : Nat → Int32) (o_looks_v : Nat → Int32) (o_repeat_v : Nat → Int32) (k15 : Nat) (v15 : Int32 × (Nat → Int32)) : Int32 × (Nat → Int32) :=
  lxb (f_X5_has (nI k15) x0) (fun r2 =>
  if r2 = 0 then (lxb (f_X5_ones (nI k15)) (fun r3 =>
    lxb (f_X5_factorial r3) (fun r4 =>
     lxb (f_X5_ones (nI k15)) (fun r5 =>
      lxb (f_X5_factorial ((o_players - 1) - r5)) (fun r6 =>
       lxb (f_X5_noiseBy (nI k15 ||| (1 <<< (x0 &&& 31))) o_players o_bars v15.2 o_noise_v o_kind_v o_looks_v o_repeat_v) (fun r7 =>
        lxb (f_X5_noiseBy (nI k15) o_players o_bars r7.2 o_noise_v o_kind_v o_looks_v o_repeat_v) (fun r9 =>
         lxb ((v15.1 + ((r4 * r6) * (r7.1 - r9.1)))) (fun y11 =>
          (y11, r9.2)))))))))
   else (v15.1, v15.2))
def l_X5_share_15 (x0 : Int32) (o_players : Int32) (o_bars : Int32) (o_noise_v : Nat → Int32) (o_kind_v : Nat → Int32) (o_looks_v : Nat → Int32) (o_repeat_v : Nat → Int32) (i0 : Int32 × (Nat → Int32)) : Nat → Int32 × (Nat → Int32)
  | 0 => i0
  | k + 1 => b_X5_share_15 x0 o_players o_bars o_noise_v o_kind_v o_looks_v o_repeat_v k (l_X5_share_15 x0 o_players o_bars o_noise_v o_kind_v o_looks_v o_repeat_v i0 k)
def f_X5_share (x0 : Int32) (x1 : Int32) (o_players : Int32) (o_bars : Int32) (o_now_v : Nat → Int32) (o_noise_v : Nat → Int32) (o_kind_v : Nat → Int32) (o_looks_v : Nat → Int32) (o_repeat_v : Nat → Int32) : Int32 × (Nat → Int32) :=
  lxb (f_X5_isPlayer x0 o_players) (fun r1 =>
  if r1 = 0 then ((-1), o_now_v)
   else lxb (l_X5_share_15 x0 o_players o_bars o_noise_v o_kind_v o_looks_v o_repeat_v (0, o_now_v) (itn 0 (1 <<< (o_players &&& 31)))) (fun r12 =>
    lxb (f_X5_factorial o_players) (fun r13 =>
     lxb (f_X5_common r12.1 r13) (fun r14 =>
      if x1 = 0 then (lxb (f_X5_factorial o_players) (fun r15 =>
        ((r15 / r14), r12.2)))
       else ((r12.1 / r14), r12.2)))))

def f_X5_gain (x0 : Int32) (x1 : Int32) (o_players : Int32) (o_bars : Int32) (o_hushWho : Int32) (o_hushSum : Int32) (o_now_v : Nat → Int32) (o_noise_v : Nat → Int32) (o_kind_v : Nat → Int32) (o_looks_v : Nat → Int32) (o_repeat_v : Nat → Int32) : Int32 × (Nat → Int32) :=
  lxb (α := Int32) (if (3 * (x0 + x1)) < o_hushSum then 0
   else o_hushWho) (fun z1 =>
  lxb (f_X5_isHushed z1 3 o_players o_bars o_now_v o_noise_v o_kind_v o_looks_v o_repeat_v) (fun r2 =>
   lxb (α := Int32) (if r2.1 = 0 then 0
     else 8) (fun z4 =>
    ((z4 - (3 * x0)), r2.2))))

def b_X5_isRest_5 (x0 : Int32) (x1 : Int32) (o_players : Int32) (o_bars : Int32) (o_hushWho : Int32) (o_hushSum : Int32) (o_noise_v : Nat → Int32) (o_kind_v : Nat → Int32) (o_looks_v : Nat → Int32) (o_repeat_v : Nat → Int32) (k5 : Nat) (v5 : Int32 × (Nat → Int32)) : Int32 × (Nat → Int32) :=
  if v5.1 = 0 then (0, v5.2)
  else lxb (f_X5_gain (nI k5) x1 o_players o_bars o_hushWho o_hushSum v5.2 o_noise_v o_kind_v o_looks_v o_repeat_v) (fun r1 =>
   lxb (f_X5_gain x0 x1 o_players o_bars o_hushWho o_hushSum r1.2 o_noise_v o_kind_v o_looks_v o_repeat_v) (fun r3 =>
    if r3.1 < r1.1 then (0, r3.2)
     else lxb (f_X5_gain (nI k5) x0 o_players o_bars o_hushWho o_hushSum r3.2 o_noise_v o_kind_v o_looks_v o_repeat_v) (fun r5 =>
      lxb (f_X5_gain x1 x0 o_players o_bars o_hushWho o_hushSum r5.2 o_noise_v o_kind_v o_looks_v o_repeat_v) (fun r7 =>
       if r7.1 < r5.1 then (0, r7.2)
        else (1, r7.2)))))
def l_X5_isRest_5 (x0 : Int32) (x1 : Int32) (o_players : Int32) (o_bars : Int32) (o_hushWho : Int32) (o_hushSum : Int32) (o_noise_v : Nat → Int32) (o_kind_v : Nat → Int32) (o_looks_v : Nat → Int32) (o_repeat_v : Nat → Int32) (i0 : Int32 × (Nat → Int32)) : Nat → Int32 × (Nat → Int32)
  | 0 => i0
  | k + 1 => b_X5_isRest_5 x0 x1 o_players o_bars o_hushWho o_hushSum o_noise_v o_kind_v o_looks_v o_repeat_v k (l_X5_isRest_5 x0 x1 o_players o_bars o_hushWho o_hushSum o_noise_v o_kind_v o_looks_v o_repeat_v i0 k)
def f_X5_isRest (x0 : Int32) (x1 : Int32) (o_players : Int32) (o_bars : Int32) (o_hushWho : Int32) (o_hushSum : Int32) (o_now_v : Nat → Int32) (o_noise_v : Nat → Int32) (o_kind_v : Nat → Int32) (o_looks_v : Nat → Int32) (o_repeat_v : Nat → Int32) : Int32 × (Nat → Int32) :=
  lxb (l_X5_isRest_5 x0 x1 o_players o_bars o_hushWho o_hushSum o_noise_v o_kind_v o_looks_v o_repeat_v (1, o_now_v) (itn 0 3)) (fun r9 =>
  (r9.1, r9.2))

def b_X5_rests_42 (o_players : Int32) (o_bars : Int32) (o_noise_v : Nat → Int32) (o_kind_v : Nat → Int32) (o_looks_v : Nat → Int32) (o_repeat_v : Nat → Int32) (r2 : Int32 × (Nat → Int32)) (r4 : Int32) (k42 : Nat) (v42 : Int32 × Int32 × (Nat → Int32)) : Int32 × Int32 × (Nat → Int32) :=
  lxb (f_X5_isRest (nI k42 / 3) (nI k42 - nI k42 / 3 * 3) o_players o_bars r2.1 r4 v42.2.2 o_noise_v o_kind_v o_looks_v o_repeat_v) (fun r5 =>
  if r5.1 = 0 then (v42.1, v42.2.1, r5.2)
   else lxb (α := Int32) (if v42.1 = 0 then ((10 * (nI k42 / 3)) + (nI k42 - nI k42 / 3 * 3))
     else v42.2.1) (fun z7 =>
    lxb ((v42.1 + 1)) (fun y8 =>
     (y8, z7, r5.2))))
def l_X5_rests_42 (o_players : Int32) (o_bars : Int32) (o_noise_v : Nat → Int32) (o_kind_v : Nat → Int32) (o_looks_v : Nat → Int32) (o_repeat_v : Nat → Int32) (r2 : Int32 × (Nat → Int32)) (r4 : Int32) (i0 : Int32 × Int32 × (Nat → Int32)) : Nat → Int32 × Int32 × (Nat → Int32)
  | 0 => i0
  | k + 1 => b_X5_rests_42 o_players o_bars o_noise_v o_kind_v o_looks_v o_repeat_v r2 r4 k (l_X5_rests_42 o_players o_bars o_noise_v o_kind_v o_looks_v o_repeat_v r2 r4 i0 k)
def f_X5_rests (x0 : Int32) (o_players : Int32) (o_bars : Int32) (o_hushWho : Int32) (o_hushSum : Int32) (o_now_v : Nat → Int32) (o_price_v : Nat → Int32) (o_noise_v : Nat → Int32) (o_kind_v : Nat → Int32) (o_looks_v : Nat → Int32) (o_repeat_v : Nat → Int32) : Int32 × Int32 × Int32 × (Nat → Int32) :=
  lxb (f_X5_in (Int32.toInt64 x0) 0 1) (fun r1 =>
  if r1 = 0 then ((-2), o_hushWho, o_hushSum, o_now_v)
   else lxb (f_X5_cheapest 3 o_players o_bars o_now_v o_price_v o_noise_v o_kind_v o_looks_v o_repeat_v) (fun r2 =>
    lxb (f_X5_priceOf r2.1 o_players o_price_v) (fun r4 =>
     lxb (l_X5_rests_42 o_players o_bars o_noise_v o_kind_v o_looks_v o_repeat_v r2 r4 (0, (-9), r2.2) (itn 0 9)) (fun r9 =>
      if x0 = 0 then (r9.1, r2.1, r4, r9.2.2)
       else (r9.2.1, r2.1, r4, r9.2.2)))))

def b_X5_power_4 (x0 : Int32) (k4 : Nat) (v4 : Int32) : Int32 :=
  (v4 * x0)
def l_X5_power_4 (x0 : Int32) (i0 : Int32) : Nat → Int32
  | 0 => i0
  | k + 1 => b_X5_power_4 x0 k (l_X5_power_4 x0 i0 k)
def f_X5_power (x0 : Int32) (x1 : Int32) : Int32 :=
  lxb (l_X5_power_4 x0 1 (itn 0 x1)) (fun r1 =>
  r1)

def b_X5_strings_44 (x0 : Int32) (x1 : Int32) (o_players : Int32) (o_bars : Int32) (o_noise_v : Nat → Int32) (o_kind_v : Nat → Int32) (o_looks_v : Nat → Int32) (o_repeat_v : Nat → Int32) (r3 : Int32) (k44 : Nat) (v44 : Int32 × Int32 × (Nat → Int32)) : Int32 × Int32 × (Nat → Int32) :=
  if (nI k44 &&& (r3 ^^^ (-1))) = 0 then (lxb (f_X5_ones (nI k44)) (fun r4 =>
   lxb (f_X5_power x1 r4) (fun r5 =>
    lxb (f_X5_ones r3) (fun r6 =>
     lxb (f_X5_ones (nI k44)) (fun r7 =>
      lxb (f_X5_power (10 - x1) (r6 - r7)) (fun r8 =>
       lxb (f_X5_layTrial v44.2.2) (fun r9 =>
        lxb (f_X5_makeSome (nI k44) 2 o_players r9) (fun r11 =>
         lxb (f_X5_goOn x0 o_players o_bars r11 o_noise_v o_kind_v o_looks_v o_repeat_v) (fun r13 =>
          lxb (f_X5_isSilent 1 o_players o_bars r13.2) (fun r15 =>
           lxb (α := Int32) (if r15 = 0 then 0
             else (r5 * r8)) (fun z16 =>
            ((v44.1 + z16), (v44.2.1 + (r5 * r8)), r13.2))))))))))))
  else (v44.1, v44.2.1, v44.2.2)
def l_X5_strings_44 (x0 : Int32) (x1 : Int32) (o_players : Int32) (o_bars : Int32) (o_noise_v : Nat → Int32) (o_kind_v : Nat → Int32) (o_looks_v : Nat → Int32) (o_repeat_v : Nat → Int32) (r3 : Int32) (i0 : Int32 × Int32 × (Nat → Int32)) : Nat → Int32 × Int32 × (Nat → Int32)
  | 0 => i0
  | k + 1 => b_X5_strings_44 x0 x1 o_players o_bars o_noise_v o_kind_v o_looks_v o_repeat_v r3 k (l_X5_strings_44 x0 x1 o_players o_bars o_noise_v o_kind_v o_looks_v o_repeat_v r3 i0 k)
def f_X5_strings (x0 : Int32) (x1 : Int32) (x2 : Int32) (o_players : Int32) (o_bars : Int32) (o_now_v : Nat → Int32) (o_noise_v : Nat → Int32) (o_kind_v : Nat → Int32) (o_looks_v : Nat → Int32) (o_repeat_v : Nat → Int32) : Int32 × (Nat → Int32) :=
  lxb (f_X5_in (Int32.toInt64 x0) 0 9) (fun r1 =>
  if r1 = 0 then ((-2), o_now_v)
   else lxb (f_X5_in (Int32.toInt64 x1) 0 10) (fun r2 =>
    if r2 = 0 then ((-2), o_now_v)
     else lxb (f_X5_whoIs 0 0 o_players o_now_v) (fun r3 =>
      lxb (l_X5_strings_44 x0 x1 o_players o_bars o_noise_v o_kind_v o_looks_v o_repeat_v r3 (0, 0, o_now_v) (itn 0 (1 <<< (o_players &&& 31)))) (fun r17 =>
       lxb (f_X5_common r17.1 r17.2.1) (fun r18 =>
        if x2 = 0 then ((r17.2.1 / r18), r17.2.2)
         else ((r17.1 / r18), r17.2.2))))))

def f_X5_seed (x0 : Int64) (o_seed : Int64) : Int64 × Int64 :=
  (o_seed, x0)

def b_X5_nights_23 (o_players : Int32) (o_bars : Int32) (o_noise_v : Nat → Int32) (o_kind_v : Nat → Int32) (o_looks_v : Nat → Int32) (o_repeat_v : Nat → Int32) (o_price_v : Nat → Int32) (o_breath_v : Nat → Int32) (k23 : Nat) (v23 : Int32 × Int64 × (Nat → Int32)) : Int32 × Int64 × (Nat → Int32) :=
  lxb (((v23.2.1 * 6364136223846793005) + 1442695040888963407)) (fun y4 =>
  lxb ((Int64.toInt32 (((Int64.toUInt64 y4 >>> ((Int32.toInt64 33).toUInt64 &&& Int64.toUInt64 63)).toInt64) - ((Int64.toUInt64 y4 >>> ((Int32.toInt64 33).toUInt64 &&& Int64.toUInt64 63)).toInt64) / 26 * 26))) (fun y5 =>
   if y5 ≤ 15 then (if y5 = 15 then (lxb (f_X5_beginOn 1 v23.2.2) (fun r13 =>
      lxb (f_X5_howMany 1 o_players r13) (fun r15 =>
       ((v23.1 + r15), y4, r13))))
     else if y5 ≤ 11 then (lxb (α := Int32) (if 6 ≤ y5 then 3
        else 2) (fun z6 =>
       lxb (f_X5_tryThing z6 0 (y5 - y5 / 6 * 6) o_players o_bars v23.2.2 o_noise_v o_kind_v o_looks_v o_repeat_v o_price_v o_breath_v) (fun r7 =>
        lxb (f_X5_howMany 1 o_players r7.2) (fun r9 =>
         ((v23.1 + r9), y4, r7.2)))))
      else lxb (f_X5_giveOn 1 (y5 - 11) v23.2.2) (fun r10 =>
       lxb (f_X5_howMany 1 o_players r10) (fun r12 =>
        ((v23.1 + r12), y4, r10))))
    else lxb (f_X5_passOn 1 o_players o_bars v23.2.2 o_noise_v o_kind_v o_looks_v o_repeat_v) (fun r16 =>
     lxb (f_X5_howMany 1 o_players r16.2) (fun r18 =>
      ((v23.1 + r18), y4, r16.2)))))
def l_X5_nights_23 (o_players : Int32) (o_bars : Int32) (o_noise_v : Nat → Int32) (o_kind_v : Nat → Int32) (o_looks_v : Nat → Int32) (o_repeat_v : Nat → Int32) (o_price_v : Nat → Int32) (o_breath_v : Nat → Int32) (i0 : Int32 × Int64 × (Nat → Int32)) : Nat → Int32 × Int64 × (Nat → Int32)
  | 0 => i0
  | k + 1 => b_X5_nights_23 o_players o_bars o_noise_v o_kind_v o_looks_v o_repeat_v o_price_v o_breath_v k (l_X5_nights_23 o_players o_bars o_noise_v o_kind_v o_looks_v o_repeat_v o_price_v o_breath_v i0 k)
def f_X5_nights (x0 : Int32) (o_players : Int32) (o_bars : Int32) (o_seed : Int64) (o_now_v : Nat → Int32) (o_noise_v : Nat → Int32) (o_kind_v : Nat → Int32) (o_looks_v : Nat → Int32) (o_repeat_v : Nat → Int32) (o_price_v : Nat → Int32) (o_breath_v : Nat → Int32) : Int32 × Int64 × (Nat → Int32) :=
  lxb (f_X5_in (Int32.toInt64 x0) 1 30) (fun r1 =>
  if r1 = 0 then ((-2), o_seed, o_now_v)
   else lxb (f_X5_layTrial o_now_v) (fun r2 =>
    lxb (l_X5_nights_23 o_players o_bars o_noise_v o_kind_v o_looks_v o_repeat_v o_price_v o_breath_v (0, o_seed, r2) (itn 0 x0)) (fun r19 =>
     (r19.1, r19.2.1, r19.2.2))))

def b_X5_keep_21 (x0 : Int32) (o_now_v : Nat → Int32) (k21 : Nat) (v21 : (Nat → Int32)) : (Nat → Int32) :=
  lxb ((o_now_v (Int32.toNatClampNeg (nI k21)))) (fun y2 =>
  (upd v21 (Int32.toNatClampNeg ((16 * x0) + nI k21)) y2))
def l_X5_keep_21 (x0 : Int32) (o_now_v : Nat → Int32) (i0 : (Nat → Int32)) : Nat → (Nat → Int32)
  | 0 => i0
  | k + 1 => b_X5_keep_21 x0 o_now_v k (l_X5_keep_21 x0 o_now_v i0 k)
def f_X5_keep (x0 : Int32) (o_isKept_v : Nat → Int32) (o_now_v : Nat → Int32) (o_kept_v : Nat → Int32) : Int32 × (Nat → Int32) × (Nat → Int32) :=
  lxb (f_X5_in (Int32.toInt64 x0) 0 1) (fun r1 =>
  if r1 = 0 then ((-1), o_isKept_v, o_kept_v)
   else lxb (l_X5_keep_21 x0 o_now_v o_kept_v (itn 0 16)) (fun r3 =>
    ((o_now_v (Int32.toNatClampNeg 15)), (upd o_isKept_v (Int32.toNatClampNeg x0) (vp_nar .boolean 1)), r3)))

def b_X5_again_26 (x0 : Int32) (o_kept_v : Nat → Int32) (k26 : Nat) (v26 : (Nat → Int32)) : (Nat → Int32) :=
  lxb ((o_kept_v (Int32.toNatClampNeg ((16 * x0) + nI k26)))) (fun y2 =>
  (upd v26 (Int32.toNatClampNeg (nI k26)) y2))
def l_X5_again_26 (x0 : Int32) (o_kept_v : Nat → Int32) (i0 : (Nat → Int32)) : Nat → (Nat → Int32)
  | 0 => i0
  | k + 1 => b_X5_again_26 x0 o_kept_v k (l_X5_again_26 x0 o_kept_v i0 k)
def f_X5_again (x0 : Int32) (o_acts : Int32) (o_isKept_v : Nat → Int32) (o_kept_v : Nat → Int32) (o_now_v : Nat → Int32) : Int32 × Int32 × (Nat → Int32) :=
  lxb (f_X5_in (Int32.toInt64 x0) 0 1) (fun r1 =>
  if r1 = 0 then ((-1), o_acts, o_now_v)
   else if (o_isKept_v (Int32.toNatClampNeg x0)) = 0 then ((-3), o_acts, o_now_v)
    else lxb (l_X5_again_26 x0 o_kept_v o_now_v (itn 0 16)) (fun r3 =>
     ((r3 (Int32.toNatClampNeg 15)), 0, r3)))

def f_X5_count (x0 : Int32) (o_players : Int32) (o_bars : Int32) (o_length : Int32) (o_acts : Int32) (o_heard : Int32) (o_now_v : Nat → Int32) : Int32 :=
  if x0 = 0 then o_length
  else if x0 = 1 then o_players
   else if x0 = 2 then o_bars
    else if x0 = 3 then (o_now_v (Int32.toNatClampNeg 15))
     else if x0 = 4 then (o_now_v (Int32.toNatClampNeg 14))
      else if x0 = 5 then (lxb (f_X5_whoIs 0 (x0 - 5) o_players o_now_v) (fun r1 =>
        r1))
       else if x0 = 6 then (lxb (f_X5_whoIs 0 (x0 - 5) o_players o_now_v) (fun r2 =>
         r2))
        else if x0 = 7 then (lxb (f_X5_whoIs 0 (x0 - 5) o_players o_now_v) (fun r3 =>
          r3))
         else if x0 = 8 then (lxb (f_X5_nextBar 0 o_players o_bars o_now_v) (fun r4 =>
           r4))
          else if x0 = 9 then (o_now_v (Int32.toNatClampNeg 13))
           else if x0 = 10 then o_acts
            else if x0 = 11 then o_heard
             else (-2)

def b_X5_concert_30 (k30 : Nat) (v30 : (Nat → Int32)) : (Nat → Int32) :=
  (upd v30 (Int32.toNatClampNeg (nI k30)) 0)
def l_X5_concert_30 (i0 : (Nat → Int32)) : Nat → (Nat → Int32)
  | 0 => i0
  | k + 1 => b_X5_concert_30 k (l_X5_concert_30 i0 k)
def b_X5_concert_51 (r1 : Int32 × Int32 × Int32 × Int32 × Int32 × (Nat → Int32) × (Nat → Int32)) (k51 : Nat) (v51 : (Nat → Int32) × (Nat → Int32) × (Nat → Int32) × (Nat → Int32) × (Nat → Int32)) : (Nat → Int32) × (Nat → Int32) × (Nat → Int32) × (Nat → Int32) × (Nat → Int32) :=
  lxb ((r1.2.2.2.2.2.2 (Int32.toNatClampNeg (4 * nI k51)))) (fun y4 =>
  lxb ((r1.2.2.2.2.2.2 (Int32.toNatClampNeg ((4 * nI k51) + 1)))) (fun y5 =>
   lxb ((r1.2.2.2.2.2.2 (Int32.toNatClampNeg ((4 * nI k51) + 2)))) (fun y6 =>
    lxb ((r1.2.2.2.2.2.2 (Int32.toNatClampNeg ((4 * nI k51) + 3)))) (fun y7 =>
     lxb (((upd v51.2.2.1 (Int32.toNatClampNeg (nI k51)) y5) (Int32.toNatClampNeg (nI k51)))) (fun y8 =>
      ((upd v51.1 (Int32.toNatClampNeg (6 + nI k51)) y8), (upd v51.2.1 (Int32.toNatClampNeg (nI k51)) y4), (upd v51.2.2.1 (Int32.toNatClampNeg (nI k51)) y5), (upd v51.2.2.2.1 (Int32.toNatClampNeg (nI k51)) y6), (upd v51.2.2.2.2 (Int32.toNatClampNeg (nI k51)) y7)))))))
def l_X5_concert_51 (r1 : Int32 × Int32 × Int32 × Int32 × Int32 × (Nat → Int32) × (Nat → Int32)) (i0 : (Nat → Int32) × (Nat → Int32) × (Nat → Int32) × (Nat → Int32) × (Nat → Int32)) : Nat → (Nat → Int32) × (Nat → Int32) × (Nat → Int32) × (Nat → Int32) × (Nat → Int32)
  | 0 => i0
  | k + 1 => b_X5_concert_51 r1 k (l_X5_concert_51 r1 i0 k)
def b_X5_concert_144 (r1 : Int32 × Int32 × Int32 × Int32 × Int32 × (Nat → Int32) × (Nat → Int32)) (k144 : Nat) (v144 : (Nat → Int32) × (Nat → Int32)) : (Nat → Int32) × (Nat → Int32) :=
  lxb ((r1.2.2.2.2.2.1 (Int32.toNatClampNeg (2 * nI k144)))) (fun y10 =>
  lxb ((r1.2.2.2.2.2.1 (Int32.toNatClampNeg ((2 * nI k144) + 1)))) (fun y11 =>
   ((upd v144.1 (Int32.toNatClampNeg (nI k144)) y10), (upd v144.2 (Int32.toNatClampNeg (nI k144)) y11))))
def l_X5_concert_144 (r1 : Int32 × Int32 × Int32 × Int32 × Int32 × (Nat → Int32) × (Nat → Int32)) (i0 : (Nat → Int32) × (Nat → Int32)) : Nat → (Nat → Int32) × (Nat → Int32)
  | 0 => i0
  | k + 1 => b_X5_concert_144 r1 k (l_X5_concert_144 r1 i0 k)
def f_X5_concert (o_players : Int32) (o_bars : Int32) (o_length : Int32) (o_acts : Int32) (o_text_v : Nat → Int32) (o_readBar_v : Nat → Int32) (o_readPlayer_v : Nat → Int32) (o_now_v : Nat → Int32) (o_price_v : Nat → Int32) (o_breath_v : Nat → Int32) (o_kind_v : Nat → Int32) (o_looks_v : Nat → Int32) (o_noise_v : Nat → Int32) (o_repeat_v : Nat → Int32) (o_isKept_v : Nat → Int32) : Int32 × Int32 × Int32 × Int32 × Int32 × Int32 × Int32 × Int32 × (Nat → Int32) × (Nat → Int32) × (Nat → Int32) × (Nat → Int32) × (Nat → Int32) × (Nat → Int32) × (Nat → Int32) × (Nat → Int32) × (Nat → Int32) × (Nat → Int32) :=
  lxb (f_X5_readText o_length o_text_v o_readBar_v o_readPlayer_v) (fun r1 =>
  if r1.1 = (-9) then (lxb (l_X5_concert_30 o_now_v (itn 0 16)) (fun r3 =>
    lxb (l_X5_concert_51 r1 (r3, o_price_v, o_breath_v, o_kind_v, o_looks_v) (itn 0 r1.2.1)) (fun r9 =>
     lxb (l_X5_concert_144 r1 (o_noise_v, o_repeat_v) (itn 0 r1.2.2.1)) (fun r12 =>
      (((10 * r1.2.1) + r1.2.2.1), r1.2.1, r1.2.2.1, r1.2.1, r1.2.2.1, r1.2.2.2.1, r1.2.2.2.2.1, 0, r1.2.2.2.2.2.1, r1.2.2.2.2.2.2, r9.1, r9.2.1, r9.2.2.1, r9.2.2.2.1, r9.2.2.2.2, r12.1, r12.2, (upd (upd o_isKept_v (Int32.toNatClampNeg 0) (vp_nar .boolean 0)) (Int32.toNatClampNeg 1) (vp_nar .boolean 0)))))))
   else ((-3), o_players, o_bars, r1.2.1, r1.2.2.1, r1.2.2.2.1, r1.2.2.2.2.1, o_acts, r1.2.2.2.2.2.1, r1.2.2.2.2.2.2, o_now_v, o_price_v, o_breath_v, o_kind_v, o_looks_v, o_noise_v, o_repeat_v, o_isKept_v))
set_option maxHeartbeats 4000000 in
set_option maxRecDepth 100000 in
theorem c_X5_tryThing (l : Launch) (dC : Nat → ClassId) (dI : Nat → Nat → Nat) (cI cZ cM : ClassId) (sz : Nat) (o_h : Nat) (x0 : Int32) (x1 : Int32) (x2 : Int32) (o_players : Int32) (o_bars : Int32) (o_price : Nat) (o_breath : Nat) (o_kind : Nat) (o_looks : Nat) (o_noise : Nat) (o_repeat : Nat) (o_now : Nat) (o_readPlayer : Nat) (o_readBar : Nat) (o_readPlayers : Int32) (o_readBars : Int32) (o_text : Nat) (o_length : Int32) (o_at : Int32) (o_faultAt : Int32) (o_acts : Int32) (o_next : Int32) (o_row : Nat) (o_heard : Int32) (o_heardOf : Nat) (o_heardBars : Nat) (o_heardPlays : Nat) (o_hushWho : Int32) (o_hushSum : Int32) (o_seed : Int64) (o_isKept : Nat) (o_kept : Nat) (o_now_v : Nat → Int32) (o_noise_v : Nat → Int32) (o_kind_v : Nat → Int32) (o_looks_v : Nat → Int32) (o_repeat_v : Nat → Int32) (o_price_v : Nat → Int32) (o_breath_v : Nat → Int32) (np : Nat) (enp : o_players = nI np) (hnp : np ≤ 6) (nb : Nat) (enb : o_bars = nI nb) (hnb : nb ≤ 8) (hB : mB o_now_v) (u : Int32 × (Nat → Int32)) (hu : u = f_X5_tryThing x0 x1 x2 o_players o_bars o_now_v o_noise_v o_kind_v o_looks_v o_repeat_v o_price_v o_breath_v) : Met l yX5_tryThing wsX5_tryThing { frames := 5, cells := 0, slots := 0, locals := 117 } (hgPc [.ref o_h, .int x0, .int x1, .int x2] (dC, dI) cI cZ cM [(o_h, .inr (5, [.int o_players, .int o_bars, .ref o_price, .ref o_breath, .ref o_kind, .ref o_looks, .ref o_noise, .ref o_repeat, .ref o_now, .ref o_readPlayer, .ref o_readBar, .int o_readPlayers, .int o_readBars, .ref o_text, .int o_length, .int o_at, .int o_faultAt, .int o_acts, .int o_next, .ref o_row, .int o_heard, .ref o_heardOf, .ref o_heardBars, .ref o_heardPlays, .int o_hushWho, .int o_hushSum, .long o_seed, .ref o_isKept, .ref o_kept])), (o_now, .inl (cI, 32, .inl o_now_v)), (o_noise, .inl (cI, 8, .inl o_noise_v)), (o_kind, .inl (cI, 6, .inl o_kind_v)), (o_looks, .inl (cI, 6, .inl o_looks_v)), (o_repeat, .inl (cI, 8, .inl o_repeat_v)), (o_price, .inl (cI, 6, .inl o_price_v)), (o_breath, .inl (cI, 6, .inl o_breath_v))] sz) (hgQiE (dC, dI) u.1 [(o_h, .inr (5, [.int o_players, .int o_bars, .ref o_price, .ref o_breath, .ref o_kind, .ref o_looks, .ref o_noise, .ref o_repeat, .ref o_now, .ref o_readPlayer, .ref o_readBar, .int o_readPlayers, .int o_readBars, .ref o_text, .int o_length, .int o_at, .int o_faultAt, .int o_acts, .int o_next, .ref o_row, .int o_heard, .ref o_heardOf, .ref o_heardBars, .ref o_heardPlays, .int o_hushWho, .int o_hushSum, .long o_seed, .ref o_isKept, .ref o_kept])), (o_now, .inl (cI, 32, .inl u.2)), (o_noise, .inl (cI, 8, .inl o_noise_v)), (o_kind, .inl (cI, 6, .inl o_kind_v)), (o_looks, .inl (cI, 6, .inl o_looks_v)), (o_repeat, .inl (cI, 8, .inl o_repeat_v)), (o_price, .inl (cI, 6, .inl o_price_v)), (o_breath, .inl (cI, 6, .inl o_breath_v))] (mB u.2) (va_A [(o_h, .inr (5, [.int o_players, .int o_bars, .ref o_price, .ref o_breath, .ref o_kind, .ref o_looks, .ref o_noise, .ref o_repeat, .ref o_now, .ref o_readPlayer, .ref o_readBar, .int o_readPlayers, .int o_readBars, .ref o_text, .int o_length, .int o_at, .int o_faultAt, .int o_acts, .int o_next, .ref o_row, .int o_heard, .ref o_heardOf, .ref o_heardBars, .ref o_heardPlays, .int o_hushWho, .int o_hushSum, .long o_seed, .ref o_isKept, .ref o_kept])), (o_now, .inl (cI, 32, .inl o_now_v)), (o_noise, .inl (cI, 8, .inl o_noise_v)), (o_kind, .inl (cI, 6, .inl o_kind_v)), (o_looks, .inl (cI, 6, .inl o_looks_v)), (o_repeat, .inl (cI, 8, .inl o_repeat_v)), (o_price, .inl (cI, 6, .inl o_price_v)), (o_breath, .inl (cI, 6, .inl o_breath_v))] sz)) 0 0 (va_A [(o_h, .inr (5, [.int o_players, .int o_bars, .ref o_price, .ref o_breath, .ref o_kind, .ref o_looks, .ref o_noise, .ref o_repeat, .ref o_now, .ref o_readPlayer, .ref o_readBar, .int o_readPlayers, .int o_readBars, .ref o_text, .int o_length, .int o_at, .int o_faultAt, .int o_acts, .int o_next, .ref o_row, .int o_heard, .ref o_heardOf, .ref o_heardBars, .ref o_heardPlays, .int o_hushWho, .int o_hushSum, .long o_seed, .ref o_isKept, .ref o_kept])), (o_now, .inl (cI, 32, .inl o_now_v)), (o_noise, .inl (cI, 8, .inl o_noise_v)), (o_kind, .inl (cI, 6, .inl o_kind_v)), (o_looks, .inl (cI, 6, .inl o_looks_v)), (o_repeat, .inl (cI, 8, .inl o_repeat_v)), (o_price, .inl (cI, 6, .inl o_price_v)), (o_breath, .inl (cI, 6, .inl o_breath_v))] sz) := by
  refine hg_ofW (cc := cX5_tryThing) (maxL := 8) (ret := (some .boolean)) (own := RX5) (fun A => hgQiE (dC, dI) u.1 [(o_h, .inr (5, [.int o_players, .int o_bars, .ref o_price, .ref o_breath, .ref o_kind, .ref o_looks, .ref o_noise, .ref o_repeat, .ref o_now, .ref o_readPlayer, .ref o_readBar, .int o_readPlayers, .int o_readBars, .ref o_text, .int o_length, .int o_at, .int o_faultAt, .int o_acts, .int o_next, .ref o_row, .int o_heard, .ref o_heardOf, .ref o_heardBars, .ref o_heardPlays, .int o_hushWho, .int o_hushSum, .long o_seed, .ref o_isKept, .ref o_kept])), (o_now, .inl (cI, 32, .inl u.2)), (o_noise, .inl (cI, 8, .inl o_noise_v)), (o_kind, .inl (cI, 6, .inl o_kind_v)), (o_looks, .inl (cI, 6, .inl o_looks_v)), (o_repeat, .inl (cI, 8, .inl o_repeat_v)), (o_price, .inl (cI, 6, .inl o_price_v)), (o_breath, .inl (cI, 6, .inl o_breath_v))] (mB u.2) A) rfl (by decide) rfl (Nat.le_of_ble_eq_true rfl) ?_
  intro p e s m below meth c ls A hsz hx hb hr hml hown hts hlk hnm hK hN hA hP hD hS hl
  subst hsz
  have w1 := hts (.fieldLink RX5 28 "HatGoesRoundModel" "now" "[I") (List.mem_of_getElem? (i := 1) rfl)
  have hinX5 : ∀ w ∈ u_ws RX5 TX5 29, w ∈ wsX5_tryThing := fun _ h => List.mem_cons_of_mem _ (List.mem_append_right _ h)
  have hl : lv_has ls 8 [(0, .ref o_h), (1, .int x0), (2, .int x1), (3, .int x2)] := hl
  unfold f_X5_tryThing at hu
  refine lv_iload_n hx hb dX5_tryThing_0 rfl (lv_at hl 1 rfl) ?_
  by_cases c_1_0 : x0 = 0
  · have hu := hu.trans (if_pos c_1_0)
    refine lv_tableIn (off := 39) (tgt := 40) hx hb dX5_tryThing_1 (by rw [c_1_0]; decide) (by rw [c_1_0]; decide) (by rw [c_1_0]; rfl) (by decide) ?_
    refine lv_iload_n hx hb dX5_tryThing_40 rfl (lv_at hl 2 rfl) ?_
    refine lv_if_ne (tgt := 60) hx hb dX5_tryThing_41 (by decide) (fun c_41 => ?_) (fun c_41 => ?_)
    · have hu := hu.trans (if_neg c_41)
      refine lv_iconst (v := 0) hx hb dX5_tryThing_60 (by decide) ?_
      refine lv_istore (lv' := [(4, .int 0), (0, .ref o_h), (1, .int x0), (2, .int x1), (3, .int x2)]) hx hb dX5_tryThing_61 hl (by decide) rfl (fun ls hl => ?_)
      refine lv_aload_n hx hb dX5_tryThing_63 rfl (lv_at hl 1 rfl) ?_
      refine lv_iconst (v := 1) hx hb dX5_tryThing_64 (by decide) ?_
      obtain ⟨r1, er1, hu⟩ := lxb_o hu
      refine hg_ciE (va_runV (As := [.int 1]) (rest := []) ⟨hx, hb, hml, hown, hts⟩ (c_X5_passOn l dC dI cI cZ cM _ o_h 1 o_players o_bars o_price o_breath o_kind o_looks o_noise o_repeat o_now o_readPlayer o_readBar o_readPlayers o_readBars o_text o_length o_at o_faultAt o_acts o_next o_row o_heard o_heardOf o_heardBars o_heardPlays o_hushWho o_hushSum o_seed o_isKept o_kept o_now_v o_noise_v o_kind_v o_looks_v o_repeat_v np enp (by omega) nb enb (by omega) 1 (show (1 : Int32) = nI 1 from rfl) (by omega) hB r1 er1) (cwV 1 hts gX5_tryThing_X5_passOn rfl rfl rfl (by decide +kernel) ⟨Nat.le_of_ble_eq_true rfl, Nat.le_of_ble_eq_true rfl⟩) (hgPreV (C := RX5) (T := TX5) (N := 29) (ci := 5) (q0 := 0) hP hD hK hN [0, 1, 2, 3, 4, 5] rfl rfl rfl rfl) rfl rfl hl.1 rfl (lv_room (Nat.le_of_ble_eq_true rfl)) dX5_tryThing_65 ⟨Nat.zero_le _, Nat.zero_le _⟩) hP hD hS hA (wr := [(o_price, .inl (cI, 6, .inl o_price_v)), (o_breath, .inl (cI, 6, .inl o_breath_v))]) (wf := [(o_h, .inr (5, [.int o_players, .int o_bars, .ref o_price, .ref o_breath, .ref o_kind, .ref o_looks, .ref o_noise, .ref o_repeat, .ref o_now, .ref o_readPlayer, .ref o_readBar, .int o_readPlayers, .int o_readBars, .ref o_text, .int o_length, .int o_at, .int o_faultAt, .int o_acts, .int o_next, .ref o_row, .int o_heard, .ref o_heardOf, .ref o_heardBars, .ref o_heardPlays, .int o_hushWho, .int o_hushSum, .long o_seed, .ref o_isKept, .ref o_kept])), (o_now, .inl (cI, 32, .inl r1.2)), (o_noise, .inl (cI, 8, .inl o_noise_v)), (o_kind, .inl (cI, 6, .inl o_kind_v)), (o_looks, .inl (cI, 6, .inl o_looks_v)), (o_repeat, .inl (cI, 8, .inl o_repeat_v)), (o_price, .inl (cI, 6, .inl o_price_v)), (o_breath, .inl (cI, 6, .inl o_breath_v))]) [0, 1, 2, 3, 4, 5] [6, 7] [2, 3, 4, 5, 6, 7, 0, 1] rfl rfl rfl (by decide) rfl rfl (fun hB2 H locs hP hD hS => ?_)
      refine lv_pop hx hb dX5_tryThing_68 rfl ?_
      refine lv_iload hx hb dX5_tryThing_69 (lv_at hl 0 rfl) ?_
      subst hu
      exact hg_rzE hx hb hr hlk (by decide) rfl hB2 hP hD hS dX5_tryThing_71
    · have hu := hu.trans (if_pos c_41)
      refine lv_iload_n hx hb dX5_tryThing_44 rfl (lv_at hl 3 rfl) ?_
      refine lv_if_ne (tgt := 60) hx hb dX5_tryThing_45 (by decide) (fun c_45 => ?_) (fun c_45 => ?_)
      · have hu := hu.trans (if_neg c_45)
        refine lv_iconst (v := 0) hx hb dX5_tryThing_60 (by decide) ?_
        refine lv_istore (lv' := [(4, .int 0), (0, .ref o_h), (1, .int x0), (2, .int x1), (3, .int x2)]) hx hb dX5_tryThing_61 hl (by decide) rfl (fun ls hl => ?_)
        refine lv_aload_n hx hb dX5_tryThing_63 rfl (lv_at hl 1 rfl) ?_
        refine lv_iconst (v := 1) hx hb dX5_tryThing_64 (by decide) ?_
        obtain ⟨r3, er3, hu⟩ := lxb_o hu
        refine hg_ciE (va_runV (As := [.int 1]) (rest := []) ⟨hx, hb, hml, hown, hts⟩ (c_X5_passOn l dC dI cI cZ cM _ o_h 1 o_players o_bars o_price o_breath o_kind o_looks o_noise o_repeat o_now o_readPlayer o_readBar o_readPlayers o_readBars o_text o_length o_at o_faultAt o_acts o_next o_row o_heard o_heardOf o_heardBars o_heardPlays o_hushWho o_hushSum o_seed o_isKept o_kept o_now_v o_noise_v o_kind_v o_looks_v o_repeat_v np enp (by omega) nb enb (by omega) 1 (show (1 : Int32) = nI 1 from rfl) (by omega) hB r3 er3) (cwV 1 hts gX5_tryThing_X5_passOn rfl rfl rfl (by decide +kernel) ⟨Nat.le_of_ble_eq_true rfl, Nat.le_of_ble_eq_true rfl⟩) (hgPreV (C := RX5) (T := TX5) (N := 29) (ci := 5) (q0 := 0) hP hD hK hN [0, 1, 2, 3, 4, 5] rfl rfl rfl rfl) rfl rfl hl.1 rfl (lv_room (Nat.le_of_ble_eq_true rfl)) dX5_tryThing_65 ⟨Nat.zero_le _, Nat.zero_le _⟩) hP hD hS hA (wr := [(o_price, .inl (cI, 6, .inl o_price_v)), (o_breath, .inl (cI, 6, .inl o_breath_v))]) (wf := [(o_h, .inr (5, [.int o_players, .int o_bars, .ref o_price, .ref o_breath, .ref o_kind, .ref o_looks, .ref o_noise, .ref o_repeat, .ref o_now, .ref o_readPlayer, .ref o_readBar, .int o_readPlayers, .int o_readBars, .ref o_text, .int o_length, .int o_at, .int o_faultAt, .int o_acts, .int o_next, .ref o_row, .int o_heard, .ref o_heardOf, .ref o_heardBars, .ref o_heardPlays, .int o_hushWho, .int o_hushSum, .long o_seed, .ref o_isKept, .ref o_kept])), (o_now, .inl (cI, 32, .inl r3.2)), (o_noise, .inl (cI, 8, .inl o_noise_v)), (o_kind, .inl (cI, 6, .inl o_kind_v)), (o_looks, .inl (cI, 6, .inl o_looks_v)), (o_repeat, .inl (cI, 8, .inl o_repeat_v)), (o_price, .inl (cI, 6, .inl o_price_v)), (o_breath, .inl (cI, 6, .inl o_breath_v))]) [0, 1, 2, 3, 4, 5] [6, 7] [2, 3, 4, 5, 6, 7, 0, 1] rfl rfl rfl (by decide) rfl rfl (fun hB4 H locs hP hD hS => ?_)
        refine lv_pop hx hb dX5_tryThing_68 rfl ?_
        refine lv_iload hx hb dX5_tryThing_69 (lv_at hl 0 rfl) ?_
        subst hu
        exact hg_rzE hx hb hr hlk (by decide) rfl hB4 hP hD hS dX5_tryThing_71
      · have hu := hu.trans (if_pos c_45)
        refine lv_aload_n hx hb dX5_tryThing_48 rfl (lv_at hl 0 rfl) ?_
        refine lv_iconst (v := 1) hx hb dX5_tryThing_49 (by decide) ?_
        obtain ⟨r5, er5, hu⟩ := lxb_o hu
        refine hg_ci (va_runV (As := [.int 1]) (rest := []) ⟨hx, hb, hml, hown, hts⟩ (c_X5_isSilent l dC dI cI cZ cM _ o_h 1 o_players o_bars o_price o_breath o_kind o_looks o_noise o_repeat o_now o_readPlayer o_readBar o_readPlayers o_readBars o_text o_length o_at o_faultAt o_acts o_next o_row o_heard o_heardOf o_heardBars o_heardPlays o_hushWho o_hushSum o_seed o_isKept o_kept o_now_v np enp (by omega) nb enb (by omega) 1 (show (1 : Int32) = nI 1 from rfl) (by omega) r5 er5) (cwV 1 hts gX5_tryThing_X5_isSilent rfl rfl rfl (by decide +kernel) ⟨Nat.le_of_ble_eq_true rfl, Nat.le_of_ble_eq_true rfl⟩) (hgPreV (C := RX5) (T := TX5) (N := 29) (ci := 5) (q0 := 0) hP hD hK hN [0, 1] rfl rfl rfl rfl) rfl rfl hl.1 rfl (lv_room (Nat.le_of_ble_eq_true rfl)) dX5_tryThing_50 ⟨Nat.zero_le _, Nat.zero_le _⟩) hP hD hS hA (wr := [(o_noise, .inl (cI, 8, .inl o_noise_v)), (o_kind, .inl (cI, 6, .inl o_kind_v)), (o_looks, .inl (cI, 6, .inl o_looks_v)), (o_repeat, .inl (cI, 8, .inl o_repeat_v)), (o_price, .inl (cI, 6, .inl o_price_v)), (o_breath, .inl (cI, 6, .inl o_breath_v))]) (wf := [(o_h, .inr (5, [.int o_players, .int o_bars, .ref o_price, .ref o_breath, .ref o_kind, .ref o_looks, .ref o_noise, .ref o_repeat, .ref o_now, .ref o_readPlayer, .ref o_readBar, .int o_readPlayers, .int o_readBars, .ref o_text, .int o_length, .int o_at, .int o_faultAt, .int o_acts, .int o_next, .ref o_row, .int o_heard, .ref o_heardOf, .ref o_heardBars, .ref o_heardPlays, .int o_hushWho, .int o_hushSum, .long o_seed, .ref o_isKept, .ref o_kept])), (o_now, .inl (cI, 32, .inl o_now_v)), (o_noise, .inl (cI, 8, .inl o_noise_v)), (o_kind, .inl (cI, 6, .inl o_kind_v)), (o_looks, .inl (cI, 6, .inl o_looks_v)), (o_repeat, .inl (cI, 8, .inl o_repeat_v)), (o_price, .inl (cI, 6, .inl o_price_v)), (o_breath, .inl (cI, 6, .inl o_breath_v))]) [0, 1] [2, 3, 4, 5, 6, 7] [6, 7, 0, 1, 2, 3, 4, 5] rfl rfl rfl (by decide) rfl rfl (fun H locs hP hD hS => ?_)
        refine lv_if_ne (tgt := 60) hx hb dX5_tryThing_53 (by decide) (fun c_53 => ?_) (fun c_53 => ?_)
        · have hu := hu.trans (if_neg c_53)
          refine lv_iconst (v := 0) hx hb dX5_tryThing_60 (by decide) ?_
          refine lv_istore (lv' := [(4, .int 0), (0, .ref o_h), (1, .int x0), (2, .int x1), (3, .int x2)]) hx hb dX5_tryThing_61 hl (by decide) rfl (fun ls hl => ?_)
          refine lv_aload_n hx hb dX5_tryThing_63 rfl (lv_at hl 1 rfl) ?_
          refine lv_iconst (v := 1) hx hb dX5_tryThing_64 (by decide) ?_
          obtain ⟨r6, er6, hu⟩ := lxb_o hu
          refine hg_ciE (va_runV (As := [.int 1]) (rest := []) ⟨hx, hb, hml, hown, hts⟩ (c_X5_passOn l dC dI cI cZ cM _ o_h 1 o_players o_bars o_price o_breath o_kind o_looks o_noise o_repeat o_now o_readPlayer o_readBar o_readPlayers o_readBars o_text o_length o_at o_faultAt o_acts o_next o_row o_heard o_heardOf o_heardBars o_heardPlays o_hushWho o_hushSum o_seed o_isKept o_kept o_now_v o_noise_v o_kind_v o_looks_v o_repeat_v np enp (by omega) nb enb (by omega) 1 (show (1 : Int32) = nI 1 from rfl) (by omega) hB r6 er6) (cwV 1 hts gX5_tryThing_X5_passOn rfl rfl rfl (by decide +kernel) ⟨Nat.le_of_ble_eq_true rfl, Nat.le_of_ble_eq_true rfl⟩) (hgPreV (C := RX5) (T := TX5) (N := 29) (ci := 5) (q0 := 0) hP hD hK hN [0, 1, 2, 3, 4, 5] rfl rfl rfl rfl) rfl rfl hl.1 rfl (lv_room (Nat.le_of_ble_eq_true rfl)) dX5_tryThing_65 ⟨Nat.zero_le _, Nat.zero_le _⟩) hP hD hS hA (wr := [(o_price, .inl (cI, 6, .inl o_price_v)), (o_breath, .inl (cI, 6, .inl o_breath_v))]) (wf := [(o_h, .inr (5, [.int o_players, .int o_bars, .ref o_price, .ref o_breath, .ref o_kind, .ref o_looks, .ref o_noise, .ref o_repeat, .ref o_now, .ref o_readPlayer, .ref o_readBar, .int o_readPlayers, .int o_readBars, .ref o_text, .int o_length, .int o_at, .int o_faultAt, .int o_acts, .int o_next, .ref o_row, .int o_heard, .ref o_heardOf, .ref o_heardBars, .ref o_heardPlays, .int o_hushWho, .int o_hushSum, .long o_seed, .ref o_isKept, .ref o_kept])), (o_now, .inl (cI, 32, .inl r6.2)), (o_noise, .inl (cI, 8, .inl o_noise_v)), (o_kind, .inl (cI, 6, .inl o_kind_v)), (o_looks, .inl (cI, 6, .inl o_looks_v)), (o_repeat, .inl (cI, 8, .inl o_repeat_v)), (o_price, .inl (cI, 6, .inl o_price_v)), (o_breath, .inl (cI, 6, .inl o_breath_v))]) [0, 1, 2, 3, 4, 5] [6, 7] [2, 3, 4, 5, 6, 7, 0, 1] rfl rfl rfl (by decide) rfl rfl (fun hB7 H locs hP hD hS => ?_)
          refine lv_pop hx hb dX5_tryThing_68 rfl ?_
          refine lv_iload hx hb dX5_tryThing_69 (lv_at hl 0 rfl) ?_
          subst hu
          exact hg_rzE hx hb hr hlk (by decide) rfl hB7 hP hD hS dX5_tryThing_71
        · have hu := hu.trans (if_pos c_53)
          refine lv_iconst (v := 1) hx hb dX5_tryThing_56 (by decide) ?_
          refine lv_goto (tgt := 61) hx hb dX5_tryThing_57 (by decide) ?_
          refine lv_istore (lv' := [(4, .int 1), (0, .ref o_h), (1, .int x0), (2, .int x1), (3, .int x2)]) hx hb dX5_tryThing_61 hl (by decide) rfl (fun ls hl => ?_)
          refine lv_aload_n hx hb dX5_tryThing_63 rfl (lv_at hl 1 rfl) ?_
          refine lv_iconst (v := 1) hx hb dX5_tryThing_64 (by decide) ?_
          obtain ⟨r8, er8, hu⟩ := lxb_o hu
          refine hg_ciE (va_runV (As := [.int 1]) (rest := []) ⟨hx, hb, hml, hown, hts⟩ (c_X5_passOn l dC dI cI cZ cM _ o_h 1 o_players o_bars o_price o_breath o_kind o_looks o_noise o_repeat o_now o_readPlayer o_readBar o_readPlayers o_readBars o_text o_length o_at o_faultAt o_acts o_next o_row o_heard o_heardOf o_heardBars o_heardPlays o_hushWho o_hushSum o_seed o_isKept o_kept o_now_v o_noise_v o_kind_v o_looks_v o_repeat_v np enp (by omega) nb enb (by omega) 1 (show (1 : Int32) = nI 1 from rfl) (by omega) hB r8 er8) (cwV 1 hts gX5_tryThing_X5_passOn rfl rfl rfl (by decide +kernel) ⟨Nat.le_of_ble_eq_true rfl, Nat.le_of_ble_eq_true rfl⟩) (hgPreV (C := RX5) (T := TX5) (N := 29) (ci := 5) (q0 := 0) hP hD hK hN [0, 1, 2, 3, 4, 5] rfl rfl rfl rfl) rfl rfl hl.1 rfl (lv_room (Nat.le_of_ble_eq_true rfl)) dX5_tryThing_65 ⟨Nat.zero_le _, Nat.zero_le _⟩) hP hD hS hA (wr := [(o_price, .inl (cI, 6, .inl o_price_v)), (o_breath, .inl (cI, 6, .inl o_breath_v))]) (wf := [(o_h, .inr (5, [.int o_players, .int o_bars, .ref o_price, .ref o_breath, .ref o_kind, .ref o_looks, .ref o_noise, .ref o_repeat, .ref o_now, .ref o_readPlayer, .ref o_readBar, .int o_readPlayers, .int o_readBars, .ref o_text, .int o_length, .int o_at, .int o_faultAt, .int o_acts, .int o_next, .ref o_row, .int o_heard, .ref o_heardOf, .ref o_heardBars, .ref o_heardPlays, .int o_hushWho, .int o_hushSum, .long o_seed, .ref o_isKept, .ref o_kept])), (o_now, .inl (cI, 32, .inl r8.2)), (o_noise, .inl (cI, 8, .inl o_noise_v)), (o_kind, .inl (cI, 6, .inl o_kind_v)), (o_looks, .inl (cI, 6, .inl o_looks_v)), (o_repeat, .inl (cI, 8, .inl o_repeat_v)), (o_price, .inl (cI, 6, .inl o_price_v)), (o_breath, .inl (cI, 6, .inl o_breath_v))]) [0, 1, 2, 3, 4, 5] [6, 7] [2, 3, 4, 5, 6, 7, 0, 1] rfl rfl rfl (by decide) rfl rfl (fun hB9 H locs hP hD hS => ?_)
          refine lv_pop hx hb dX5_tryThing_68 rfl ?_
          refine lv_iload hx hb dX5_tryThing_69 (lv_at hl 0 rfl) ?_
          subst hu
          exact hg_rzE hx hb hr hlk (by decide) rfl hB9 hP hD hS dX5_tryThing_71
  · have hu := hu.trans (if_neg c_1_0)
    by_cases c_1_1 : x0 = 1
    · have hu := hu.trans (if_pos c_1_1)
      refine lv_tableIn (off := 71) (tgt := 72) hx hb dX5_tryThing_1 (by rw [c_1_1]; decide) (by rw [c_1_1]; decide) (by rw [c_1_1]; rfl) (by decide) ?_
      refine lv_iload_n hx hb dX5_tryThing_72 rfl (lv_at hl 2 rfl) ?_
      refine lv_if_ne (tgt := 84) hx hb dX5_tryThing_73 (by decide) (fun c_73 => ?_) (fun c_73 => ?_)
      · have hu := hu.trans (if_neg c_73)
        refine lv_iconst (v := 0) hx hb dX5_tryThing_84 (by decide) ?_
        refine lv_istore (lv' := [(5, .int 0), (0, .ref o_h), (1, .int x0), (2, .int x1), (3, .int x2)]) hx hb dX5_tryThing_85 hl (by decide) rfl (fun ls hl => ?_)
        refine lv_aload_n hx hb dX5_tryThing_87 rfl (lv_at hl 1 rfl) ?_
        refine lv_iconst (v := 1) hx hb dX5_tryThing_88 (by decide) ?_
        refine lv_iload_n hx hb dX5_tryThing_89 rfl (lv_at hl 4 rfl) ?_
        obtain ⟨r10, er10, hu⟩ := lxb_o hu
        refine hg_cvE (va_runV (As := [.int 1, .int x2]) (rest := []) ⟨hx, hb, hml, hown, hts⟩ (c_X5_giveOn l dC dI cI cZ cM _ o_h 1 x2 o_players o_bars o_price o_breath o_kind o_looks o_noise o_repeat o_now o_readPlayer o_readBar o_readPlayers o_readBars o_text o_length o_at o_faultAt o_acts o_next o_row o_heard o_heardOf o_heardBars o_heardPlays o_hushWho o_hushSum o_seed o_isKept o_kept o_now_v np enp (by omega) nb enb (by omega) 1 (show (1 : Int32) = nI 1 from rfl) (by omega) hB r10 er10) (cwV 2 hts gX5_tryThing_X5_giveOn rfl rfl rfl (by decide +kernel) ⟨Nat.le_of_ble_eq_true rfl, Nat.le_of_ble_eq_true rfl⟩) (hgPreV (C := RX5) (T := TX5) (N := 29) (ci := 5) (q0 := 0) hP hD hK hN [0, 1] rfl rfl rfl rfl) rfl rfl hl.1 rfl (lv_room (Nat.le_of_ble_eq_true rfl)) dX5_tryThing_90 ⟨Nat.zero_le _, Nat.zero_le _⟩) hP hD hS hA (wr := [(o_noise, .inl (cI, 8, .inl o_noise_v)), (o_kind, .inl (cI, 6, .inl o_kind_v)), (o_looks, .inl (cI, 6, .inl o_looks_v)), (o_repeat, .inl (cI, 8, .inl o_repeat_v)), (o_price, .inl (cI, 6, .inl o_price_v)), (o_breath, .inl (cI, 6, .inl o_breath_v))]) (wf := [(o_h, .inr (5, [.int o_players, .int o_bars, .ref o_price, .ref o_breath, .ref o_kind, .ref o_looks, .ref o_noise, .ref o_repeat, .ref o_now, .ref o_readPlayer, .ref o_readBar, .int o_readPlayers, .int o_readBars, .ref o_text, .int o_length, .int o_at, .int o_faultAt, .int o_acts, .int o_next, .ref o_row, .int o_heard, .ref o_heardOf, .ref o_heardBars, .ref o_heardPlays, .int o_hushWho, .int o_hushSum, .long o_seed, .ref o_isKept, .ref o_kept])), (o_now, .inl (cI, 32, .inl r10)), (o_noise, .inl (cI, 8, .inl o_noise_v)), (o_kind, .inl (cI, 6, .inl o_kind_v)), (o_looks, .inl (cI, 6, .inl o_looks_v)), (o_repeat, .inl (cI, 8, .inl o_repeat_v)), (o_price, .inl (cI, 6, .inl o_price_v)), (o_breath, .inl (cI, 6, .inl o_breath_v))]) [0, 1] [2, 3, 4, 5, 6, 7] [6, 7, 0, 1, 2, 3, 4, 5] rfl rfl rfl (by decide) rfl rfl (fun hB11 H locs hP hD hS => ?_)
        refine lv_iload hx hb dX5_tryThing_93 (lv_at hl 0 rfl) ?_
        subst hu
        exact hg_rzE hx hb hr hlk (by decide) rfl hB11 hP hD hS dX5_tryThing_95
      · have hu := hu.trans (if_pos c_73)
        refine lv_iload_n hx hb dX5_tryThing_76 rfl (lv_at hl 3 rfl) ?_
        refine lv_if_le (tgt := 84) hx hb dX5_tryThing_77 (by decide) (fun c_77 => ?_) (fun c_77 => ?_)
        · have hu := hu.trans (if_pos c_77)
          refine lv_iconst (v := 0) hx hb dX5_tryThing_84 (by decide) ?_
          refine lv_istore (lv' := [(5, .int 0), (0, .ref o_h), (1, .int x0), (2, .int x1), (3, .int x2)]) hx hb dX5_tryThing_85 hl (by decide) rfl (fun ls hl => ?_)
          refine lv_aload_n hx hb dX5_tryThing_87 rfl (lv_at hl 1 rfl) ?_
          refine lv_iconst (v := 1) hx hb dX5_tryThing_88 (by decide) ?_
          refine lv_iload_n hx hb dX5_tryThing_89 rfl (lv_at hl 4 rfl) ?_
          obtain ⟨r12, er12, hu⟩ := lxb_o hu
          refine hg_cvE (va_runV (As := [.int 1, .int x2]) (rest := []) ⟨hx, hb, hml, hown, hts⟩ (c_X5_giveOn l dC dI cI cZ cM _ o_h 1 x2 o_players o_bars o_price o_breath o_kind o_looks o_noise o_repeat o_now o_readPlayer o_readBar o_readPlayers o_readBars o_text o_length o_at o_faultAt o_acts o_next o_row o_heard o_heardOf o_heardBars o_heardPlays o_hushWho o_hushSum o_seed o_isKept o_kept o_now_v np enp (by omega) nb enb (by omega) 1 (show (1 : Int32) = nI 1 from rfl) (by omega) hB r12 er12) (cwV 2 hts gX5_tryThing_X5_giveOn rfl rfl rfl (by decide +kernel) ⟨Nat.le_of_ble_eq_true rfl, Nat.le_of_ble_eq_true rfl⟩) (hgPreV (C := RX5) (T := TX5) (N := 29) (ci := 5) (q0 := 0) hP hD hK hN [0, 1] rfl rfl rfl rfl) rfl rfl hl.1 rfl (lv_room (Nat.le_of_ble_eq_true rfl)) dX5_tryThing_90 ⟨Nat.zero_le _, Nat.zero_le _⟩) hP hD hS hA (wr := [(o_noise, .inl (cI, 8, .inl o_noise_v)), (o_kind, .inl (cI, 6, .inl o_kind_v)), (o_looks, .inl (cI, 6, .inl o_looks_v)), (o_repeat, .inl (cI, 8, .inl o_repeat_v)), (o_price, .inl (cI, 6, .inl o_price_v)), (o_breath, .inl (cI, 6, .inl o_breath_v))]) (wf := [(o_h, .inr (5, [.int o_players, .int o_bars, .ref o_price, .ref o_breath, .ref o_kind, .ref o_looks, .ref o_noise, .ref o_repeat, .ref o_now, .ref o_readPlayer, .ref o_readBar, .int o_readPlayers, .int o_readBars, .ref o_text, .int o_length, .int o_at, .int o_faultAt, .int o_acts, .int o_next, .ref o_row, .int o_heard, .ref o_heardOf, .ref o_heardBars, .ref o_heardPlays, .int o_hushWho, .int o_hushSum, .long o_seed, .ref o_isKept, .ref o_kept])), (o_now, .inl (cI, 32, .inl r12)), (o_noise, .inl (cI, 8, .inl o_noise_v)), (o_kind, .inl (cI, 6, .inl o_kind_v)), (o_looks, .inl (cI, 6, .inl o_looks_v)), (o_repeat, .inl (cI, 8, .inl o_repeat_v)), (o_price, .inl (cI, 6, .inl o_price_v)), (o_breath, .inl (cI, 6, .inl o_breath_v))]) [0, 1] [2, 3, 4, 5, 6, 7] [6, 7, 0, 1, 2, 3, 4, 5] rfl rfl rfl (by decide) rfl rfl (fun hB13 H locs hP hD hS => ?_)
          refine lv_iload hx hb dX5_tryThing_93 (lv_at hl 0 rfl) ?_
          subst hu
          exact hg_rzE hx hb hr hlk (by decide) rfl hB13 hP hD hS dX5_tryThing_95
        · have hu := hu.trans (if_neg c_77)
          refine lv_iconst (v := 1) hx hb dX5_tryThing_80 (by decide) ?_
          refine lv_goto (tgt := 85) hx hb dX5_tryThing_81 (by decide) ?_
          refine lv_istore (lv' := [(5, .int 1), (0, .ref o_h), (1, .int x0), (2, .int x1), (3, .int x2)]) hx hb dX5_tryThing_85 hl (by decide) rfl (fun ls hl => ?_)
          refine lv_aload_n hx hb dX5_tryThing_87 rfl (lv_at hl 1 rfl) ?_
          refine lv_iconst (v := 1) hx hb dX5_tryThing_88 (by decide) ?_
          refine lv_iload_n hx hb dX5_tryThing_89 rfl (lv_at hl 4 rfl) ?_
          obtain ⟨r14, er14, hu⟩ := lxb_o hu
          refine hg_cvE (va_runV (As := [.int 1, .int x2]) (rest := []) ⟨hx, hb, hml, hown, hts⟩ (c_X5_giveOn l dC dI cI cZ cM _ o_h 1 x2 o_players o_bars o_price o_breath o_kind o_looks o_noise o_repeat o_now o_readPlayer o_readBar o_readPlayers o_readBars o_text o_length o_at o_faultAt o_acts o_next o_row o_heard o_heardOf o_heardBars o_heardPlays o_hushWho o_hushSum o_seed o_isKept o_kept o_now_v np enp (by omega) nb enb (by omega) 1 (show (1 : Int32) = nI 1 from rfl) (by omega) hB r14 er14) (cwV 2 hts gX5_tryThing_X5_giveOn rfl rfl rfl (by decide +kernel) ⟨Nat.le_of_ble_eq_true rfl, Nat.le_of_ble_eq_true rfl⟩) (hgPreV (C := RX5) (T := TX5) (N := 29) (ci := 5) (q0 := 0) hP hD hK hN [0, 1] rfl rfl rfl rfl) rfl rfl hl.1 rfl (lv_room (Nat.le_of_ble_eq_true rfl)) dX5_tryThing_90 ⟨Nat.zero_le _, Nat.zero_le _⟩) hP hD hS hA (wr := [(o_noise, .inl (cI, 8, .inl o_noise_v)), (o_kind, .inl (cI, 6, .inl o_kind_v)), (o_looks, .inl (cI, 6, .inl o_looks_v)), (o_repeat, .inl (cI, 8, .inl o_repeat_v)), (o_price, .inl (cI, 6, .inl o_price_v)), (o_breath, .inl (cI, 6, .inl o_breath_v))]) (wf := [(o_h, .inr (5, [.int o_players, .int o_bars, .ref o_price, .ref o_breath, .ref o_kind, .ref o_looks, .ref o_noise, .ref o_repeat, .ref o_now, .ref o_readPlayer, .ref o_readBar, .int o_readPlayers, .int o_readBars, .ref o_text, .int o_length, .int o_at, .int o_faultAt, .int o_acts, .int o_next, .ref o_row, .int o_heard, .ref o_heardOf, .ref o_heardBars, .ref o_heardPlays, .int o_hushWho, .int o_hushSum, .long o_seed, .ref o_isKept, .ref o_kept])), (o_now, .inl (cI, 32, .inl r14)), (o_noise, .inl (cI, 8, .inl o_noise_v)), (o_kind, .inl (cI, 6, .inl o_kind_v)), (o_looks, .inl (cI, 6, .inl o_looks_v)), (o_repeat, .inl (cI, 8, .inl o_repeat_v)), (o_price, .inl (cI, 6, .inl o_price_v)), (o_breath, .inl (cI, 6, .inl o_breath_v))]) [0, 1] [2, 3, 4, 5, 6, 7] [6, 7, 0, 1, 2, 3, 4, 5] rfl rfl rfl (by decide) rfl rfl (fun hB15 H locs hP hD hS => ?_)
          refine lv_iload hx hb dX5_tryThing_93 (lv_at hl 0 rfl) ?_
          subst hu
          exact hg_rzE hx hb hr hlk (by decide) rfl hB15 hP hD hS dX5_tryThing_95
    · have hu := hu.trans (if_neg c_1_1)
      by_cases c_1_2 : x0 = 2
      · have hu := hu.trans (if_pos c_1_2)
        refine lv_tableIn (off := 95) (tgt := 96) hx hb dX5_tryThing_1 (by rw [c_1_2]; decide) (by rw [c_1_2]; decide) (by rw [c_1_2]; rfl) (by decide) ?_
        refine lv_iload_n hx hb dX5_tryThing_96 rfl (lv_at hl 2 rfl) ?_
        refine lv_if_ne (tgt := 113) hx hb dX5_tryThing_97 (by decide) (fun c_97 => ?_) (fun c_97 => ?_)
        · have hu := hu.trans (if_neg c_97)
          refine lv_iconst (v := 0) hx hb dX5_tryThing_113 (by decide) ?_
          refine lv_istore (lv' := [(6, .int 0), (0, .ref o_h), (1, .int x0), (2, .int x1), (3, .int x2)]) hx hb dX5_tryThing_114 hl (by decide) rfl (fun ls hl => ?_)
          refine lv_iload hx hb dX5_tryThing_116 (lv_at hl 0 rfl) ?_
          refine lv_if_eq (tgt := 127) hx hb dX5_tryThing_118 (by decide) (fun c_118 => ?_) (fun c_118 => absurd (by decide) c_118)
          refine lv_iload hx hb dX5_tryThing_127 (lv_at hl 0 rfl) ?_
          subst hu
          exact hg_rzE hx hb hr hlk (by decide) rfl hB hP hD hS dX5_tryThing_129
        · have hu := hu.trans (if_pos c_97)
          refine lv_aload_n hx hb dX5_tryThing_100 rfl (lv_at hl 0 rfl) ?_
          refine lv_iconst (v := 1) hx hb dX5_tryThing_101 (by decide) ?_
          refine lv_iload_n hx hb dX5_tryThing_102 rfl (lv_at hl 3 rfl) ?_
          obtain ⟨r16, er16, hu⟩ := lxb_o hu
          refine hg_ci (va_runV (As := [.int 1, .int x2]) (rest := []) ⟨hx, hb, hml, hown, hts⟩ (c_X5_canPay l dC dI cI cZ cM _ o_h 1 x2 o_players o_bars o_price o_breath o_kind o_looks o_noise o_repeat o_now o_readPlayer o_readBar o_readPlayers o_readBars o_text o_length o_at o_faultAt o_acts o_next o_row o_heard o_heardOf o_heardBars o_heardPlays o_hushWho o_hushSum o_seed o_isKept o_kept o_now_v o_price_v np enp (by omega) nb enb (by omega) 1 (show (1 : Int32) = nI 1 from rfl) (by omega) r16 er16) (cwV 2 hts gX5_tryThing_X5_canPay rfl rfl rfl (by decide +kernel) ⟨Nat.le_of_ble_eq_true rfl, Nat.le_of_ble_eq_true rfl⟩) (hgPreV (C := RX5) (T := TX5) (N := 29) (ci := 5) (q0 := 0) hP hD hK hN [0, 1, 6] rfl rfl rfl rfl) rfl rfl hl.1 rfl (lv_room (Nat.le_of_ble_eq_true rfl)) dX5_tryThing_103 ⟨Nat.zero_le _, Nat.zero_le _⟩) hP hD hS hA (wr := [(o_noise, .inl (cI, 8, .inl o_noise_v)), (o_kind, .inl (cI, 6, .inl o_kind_v)), (o_looks, .inl (cI, 6, .inl o_looks_v)), (o_repeat, .inl (cI, 8, .inl o_repeat_v)), (o_breath, .inl (cI, 6, .inl o_breath_v))]) (wf := [(o_h, .inr (5, [.int o_players, .int o_bars, .ref o_price, .ref o_breath, .ref o_kind, .ref o_looks, .ref o_noise, .ref o_repeat, .ref o_now, .ref o_readPlayer, .ref o_readBar, .int o_readPlayers, .int o_readBars, .ref o_text, .int o_length, .int o_at, .int o_faultAt, .int o_acts, .int o_next, .ref o_row, .int o_heard, .ref o_heardOf, .ref o_heardBars, .ref o_heardPlays, .int o_hushWho, .int o_hushSum, .long o_seed, .ref o_isKept, .ref o_kept])), (o_now, .inl (cI, 32, .inl o_now_v)), (o_noise, .inl (cI, 8, .inl o_noise_v)), (o_kind, .inl (cI, 6, .inl o_kind_v)), (o_looks, .inl (cI, 6, .inl o_looks_v)), (o_repeat, .inl (cI, 8, .inl o_repeat_v)), (o_price, .inl (cI, 6, .inl o_price_v)), (o_breath, .inl (cI, 6, .inl o_breath_v))]) [0, 1, 6] [2, 3, 4, 5, 7] [5, 6, 0, 1, 2, 3, 7, 4] rfl rfl rfl (by decide) rfl rfl (fun H locs hP hD hS => ?_)
          refine lv_if_eq (tgt := 113) hx hb dX5_tryThing_106 (by decide) (fun c_106 => ?_) (fun c_106 => ?_)
          · have hu := hu.trans (if_pos c_106)
            refine lv_iconst (v := 0) hx hb dX5_tryThing_113 (by decide) ?_
            refine lv_istore (lv' := [(6, .int 0), (0, .ref o_h), (1, .int x0), (2, .int x1), (3, .int x2)]) hx hb dX5_tryThing_114 hl (by decide) rfl (fun ls hl => ?_)
            refine lv_iload hx hb dX5_tryThing_116 (lv_at hl 0 rfl) ?_
            refine lv_if_eq (tgt := 127) hx hb dX5_tryThing_118 (by decide) (fun c_118 => ?_) (fun c_118 => absurd (by decide) c_118)
            refine lv_iload hx hb dX5_tryThing_127 (lv_at hl 0 rfl) ?_
            subst hu
            exact hg_rzE hx hb hr hlk (by decide) rfl hB hP hD hS dX5_tryThing_129
          · have hu := hu.trans (if_neg c_106)
            obtain ⟨jp, hjp, ejp⟩ := mCanPay enp hnp er16 c_106
            refine lv_iconst (v := 1) hx hb dX5_tryThing_109 (by decide) ?_
            refine lv_goto (tgt := 114) hx hb dX5_tryThing_110 (by decide) ?_
            refine lv_istore (lv' := [(6, .int 1), (0, .ref o_h), (1, .int x0), (2, .int x1), (3, .int x2)]) hx hb dX5_tryThing_114 hl (by decide) rfl (fun ls hl => ?_)
            refine lv_iload hx hb dX5_tryThing_116 (lv_at hl 0 rfl) ?_
            refine lv_if_eq (tgt := 127) hx hb dX5_tryThing_118 (by decide) (fun c_118 => absurd c_118 (by decide)) (fun c_118 => ?_)
            refine lv_aload_n hx hb dX5_tryThing_121 rfl (lv_at hl 1 rfl) ?_
            refine lv_iconst (v := 1) hx hb dX5_tryThing_122 (by decide) ?_
            refine lv_iload_n hx hb dX5_tryThing_123 rfl (lv_at hl 4 rfl) ?_
            obtain ⟨r17, er17, hu⟩ := lxb_o hu
            refine hg_cvE (va_runV (As := [.int 1, .int x2]) (rest := []) ⟨hx, hb, hml, hown, hts⟩ (c_X5_payOn l dC dI cI cZ cM _ o_h 1 x2 o_players o_bars o_price o_breath o_kind o_looks o_noise o_repeat o_now o_readPlayer o_readBar o_readPlayers o_readBars o_text o_length o_at o_faultAt o_acts o_next o_row o_heard o_heardOf o_heardBars o_heardPlays o_hushWho o_hushSum o_seed o_isKept o_kept o_now_v o_price_v np enp (by omega) nb enb (by omega) 1 (show (1 : Int32) = nI 1 from rfl) (by omega) jp ejp (by omega) hB r17 er17) (cwV 2 hts gX5_tryThing_X5_payOn rfl rfl rfl (by decide +kernel) ⟨Nat.le_of_ble_eq_true rfl, Nat.le_of_ble_eq_true rfl⟩) (hgPreV (C := RX5) (T := TX5) (N := 29) (ci := 5) (q0 := 0) hP hD hK hN [0, 1, 6] rfl rfl rfl rfl) rfl rfl hl.1 rfl (lv_room (Nat.le_of_ble_eq_true rfl)) dX5_tryThing_124 ⟨Nat.zero_le _, Nat.zero_le _⟩) hP hD hS hA (wr := [(o_noise, .inl (cI, 8, .inl o_noise_v)), (o_kind, .inl (cI, 6, .inl o_kind_v)), (o_looks, .inl (cI, 6, .inl o_looks_v)), (o_repeat, .inl (cI, 8, .inl o_repeat_v)), (o_breath, .inl (cI, 6, .inl o_breath_v))]) (wf := [(o_h, .inr (5, [.int o_players, .int o_bars, .ref o_price, .ref o_breath, .ref o_kind, .ref o_looks, .ref o_noise, .ref o_repeat, .ref o_now, .ref o_readPlayer, .ref o_readBar, .int o_readPlayers, .int o_readBars, .ref o_text, .int o_length, .int o_at, .int o_faultAt, .int o_acts, .int o_next, .ref o_row, .int o_heard, .ref o_heardOf, .ref o_heardBars, .ref o_heardPlays, .int o_hushWho, .int o_hushSum, .long o_seed, .ref o_isKept, .ref o_kept])), (o_now, .inl (cI, 32, .inl r17)), (o_noise, .inl (cI, 8, .inl o_noise_v)), (o_kind, .inl (cI, 6, .inl o_kind_v)), (o_looks, .inl (cI, 6, .inl o_looks_v)), (o_repeat, .inl (cI, 8, .inl o_repeat_v)), (o_price, .inl (cI, 6, .inl o_price_v)), (o_breath, .inl (cI, 6, .inl o_breath_v))]) [0, 1, 6] [2, 3, 4, 5, 7] [5, 6, 0, 1, 2, 3, 7, 4] rfl rfl rfl (by decide) rfl rfl (fun hB18 H locs hP hD hS => ?_)
            refine lv_iload hx hb dX5_tryThing_127 (lv_at hl 0 rfl) ?_
            subst hu
            exact hg_rzE hx hb hr hlk (by decide) rfl hB18 hP hD hS dX5_tryThing_129
      · have hu := hu.trans (if_neg c_1_2)
        by_cases c_1_3 : x0 = 3
        · have hu := hu.trans (if_pos c_1_3)
          refine lv_tableIn (off := 129) (tgt := 130) hx hb dX5_tryThing_1 (by rw [c_1_3]; decide) (by rw [c_1_3]; decide) (by rw [c_1_3]; rfl) (by decide) ?_
          refine lv_iload_n hx hb dX5_tryThing_130 rfl (lv_at hl 2 rfl) ?_
          refine lv_if_ne (tgt := 147) hx hb dX5_tryThing_131 (by decide) (fun c_131 => ?_) (fun c_131 => ?_)
          · have hu := hu.trans (if_neg c_131)
            refine lv_iconst (v := 0) hx hb dX5_tryThing_147 (by decide) ?_
            refine lv_istore (lv' := [(7, .int 0), (0, .ref o_h), (1, .int x0), (2, .int x1), (3, .int x2)]) hx hb dX5_tryThing_148 hl (by decide) rfl (fun ls hl => ?_)
            refine lv_iload hx hb dX5_tryThing_150 (lv_at hl 0 rfl) ?_
            refine lv_if_eq (tgt := 161) hx hb dX5_tryThing_152 (by decide) (fun c_152 => ?_) (fun c_152 => absurd (by decide) c_152)
            refine lv_iload hx hb dX5_tryThing_161 (lv_at hl 0 rfl) ?_
            subst hu
            exact hg_rzE hx hb hr hlk (by decide) rfl hB hP hD hS dX5_tryThing_163
          · have hu := hu.trans (if_pos c_131)
            refine lv_aload_n hx hb dX5_tryThing_134 rfl (lv_at hl 0 rfl) ?_
            refine lv_iconst (v := 1) hx hb dX5_tryThing_135 (by decide) ?_
            refine lv_iload_n hx hb dX5_tryThing_136 rfl (lv_at hl 3 rfl) ?_
            obtain ⟨r19, er19, hu⟩ := lxb_o hu
            refine hg_ci (va_runV (As := [.int 1, .int x2]) (rest := []) ⟨hx, hb, hml, hown, hts⟩ (c_X5_canRest l dC dI cI cZ cM _ o_h 1 x2 o_players o_bars o_price o_breath o_kind o_looks o_noise o_repeat o_now o_readPlayer o_readBar o_readPlayers o_readBars o_text o_length o_at o_faultAt o_acts o_next o_row o_heard o_heardOf o_heardBars o_heardPlays o_hushWho o_hushSum o_seed o_isKept o_kept o_now_v o_breath_v np enp (by omega) nb enb (by omega) 1 (show (1 : Int32) = nI 1 from rfl) (by omega) r19 er19) (cwV 2 hts gX5_tryThing_X5_canRest rfl rfl rfl (by decide +kernel) ⟨Nat.le_of_ble_eq_true rfl, Nat.le_of_ble_eq_true rfl⟩) (hgPreV (C := RX5) (T := TX5) (N := 29) (ci := 5) (q0 := 0) hP hD hK hN [0, 1, 7] rfl rfl rfl rfl) rfl rfl hl.1 rfl (lv_room (Nat.le_of_ble_eq_true rfl)) dX5_tryThing_137 ⟨Nat.zero_le _, Nat.zero_le _⟩) hP hD hS hA (wr := [(o_noise, .inl (cI, 8, .inl o_noise_v)), (o_kind, .inl (cI, 6, .inl o_kind_v)), (o_looks, .inl (cI, 6, .inl o_looks_v)), (o_repeat, .inl (cI, 8, .inl o_repeat_v)), (o_price, .inl (cI, 6, .inl o_price_v))]) (wf := [(o_h, .inr (5, [.int o_players, .int o_bars, .ref o_price, .ref o_breath, .ref o_kind, .ref o_looks, .ref o_noise, .ref o_repeat, .ref o_now, .ref o_readPlayer, .ref o_readBar, .int o_readPlayers, .int o_readBars, .ref o_text, .int o_length, .int o_at, .int o_faultAt, .int o_acts, .int o_next, .ref o_row, .int o_heard, .ref o_heardOf, .ref o_heardBars, .ref o_heardPlays, .int o_hushWho, .int o_hushSum, .long o_seed, .ref o_isKept, .ref o_kept])), (o_now, .inl (cI, 32, .inl o_now_v)), (o_noise, .inl (cI, 8, .inl o_noise_v)), (o_kind, .inl (cI, 6, .inl o_kind_v)), (o_looks, .inl (cI, 6, .inl o_looks_v)), (o_repeat, .inl (cI, 8, .inl o_repeat_v)), (o_price, .inl (cI, 6, .inl o_price_v)), (o_breath, .inl (cI, 6, .inl o_breath_v))]) [0, 1, 7] [2, 3, 4, 5, 6] [5, 6, 0, 1, 2, 3, 4, 7] rfl rfl rfl (by decide) rfl rfl (fun H locs hP hD hS => ?_)
            refine lv_if_eq (tgt := 147) hx hb dX5_tryThing_140 (by decide) (fun c_140 => ?_) (fun c_140 => ?_)
            · have hu := hu.trans (if_pos c_140)
              refine lv_iconst (v := 0) hx hb dX5_tryThing_147 (by decide) ?_
              refine lv_istore (lv' := [(7, .int 0), (0, .ref o_h), (1, .int x0), (2, .int x1), (3, .int x2)]) hx hb dX5_tryThing_148 hl (by decide) rfl (fun ls hl => ?_)
              refine lv_iload hx hb dX5_tryThing_150 (lv_at hl 0 rfl) ?_
              refine lv_if_eq (tgt := 161) hx hb dX5_tryThing_152 (by decide) (fun c_152 => ?_) (fun c_152 => absurd (by decide) c_152)
              refine lv_iload hx hb dX5_tryThing_161 (lv_at hl 0 rfl) ?_
              subst hu
              exact hg_rzE hx hb hr hlk (by decide) rfl hB hP hD hS dX5_tryThing_163
            · have hu := hu.trans (if_neg c_140)
              obtain ⟨jp, hjp, ejp⟩ := mCanRest enp hnp er19 c_140
              refine lv_iconst (v := 1) hx hb dX5_tryThing_143 (by decide) ?_
              refine lv_goto (tgt := 148) hx hb dX5_tryThing_144 (by decide) ?_
              refine lv_istore (lv' := [(7, .int 1), (0, .ref o_h), (1, .int x0), (2, .int x1), (3, .int x2)]) hx hb dX5_tryThing_148 hl (by decide) rfl (fun ls hl => ?_)
              refine lv_iload hx hb dX5_tryThing_150 (lv_at hl 0 rfl) ?_
              refine lv_if_eq (tgt := 161) hx hb dX5_tryThing_152 (by decide) (fun c_152 => absurd c_152 (by decide)) (fun c_152 => ?_)
              refine lv_aload_n hx hb dX5_tryThing_155 rfl (lv_at hl 1 rfl) ?_
              refine lv_iconst (v := 1) hx hb dX5_tryThing_156 (by decide) ?_
              refine lv_iload_n hx hb dX5_tryThing_157 rfl (lv_at hl 4 rfl) ?_
              obtain ⟨r20, er20, hu⟩ := lxb_o hu
              refine hg_cvE (va_runV (As := [.int 1, .int x2]) (rest := []) ⟨hx, hb, hml, hown, hts⟩ (c_X5_restOn l dC dI cI cZ cM _ o_h 1 x2 o_players o_bars o_price o_breath o_kind o_looks o_noise o_repeat o_now o_readPlayer o_readBar o_readPlayers o_readBars o_text o_length o_at o_faultAt o_acts o_next o_row o_heard o_heardOf o_heardBars o_heardPlays o_hushWho o_hushSum o_seed o_isKept o_kept o_now_v o_breath_v np enp (by omega) nb enb (by omega) 1 (show (1 : Int32) = nI 1 from rfl) (by omega) jp ejp (by omega) hB r20 er20) (cwV 2 hts gX5_tryThing_X5_restOn rfl rfl rfl (by decide +kernel) ⟨Nat.le_of_ble_eq_true rfl, Nat.le_of_ble_eq_true rfl⟩) (hgPreV (C := RX5) (T := TX5) (N := 29) (ci := 5) (q0 := 0) hP hD hK hN [0, 1, 7] rfl rfl rfl rfl) rfl rfl hl.1 rfl (lv_room (Nat.le_of_ble_eq_true rfl)) dX5_tryThing_158 ⟨Nat.zero_le _, Nat.zero_le _⟩) hP hD hS hA (wr := [(o_noise, .inl (cI, 8, .inl o_noise_v)), (o_kind, .inl (cI, 6, .inl o_kind_v)), (o_looks, .inl (cI, 6, .inl o_looks_v)), (o_repeat, .inl (cI, 8, .inl o_repeat_v)), (o_price, .inl (cI, 6, .inl o_price_v))]) (wf := [(o_h, .inr (5, [.int o_players, .int o_bars, .ref o_price, .ref o_breath, .ref o_kind, .ref o_looks, .ref o_noise, .ref o_repeat, .ref o_now, .ref o_readPlayer, .ref o_readBar, .int o_readPlayers, .int o_readBars, .ref o_text, .int o_length, .int o_at, .int o_faultAt, .int o_acts, .int o_next, .ref o_row, .int o_heard, .ref o_heardOf, .ref o_heardBars, .ref o_heardPlays, .int o_hushWho, .int o_hushSum, .long o_seed, .ref o_isKept, .ref o_kept])), (o_now, .inl (cI, 32, .inl r20)), (o_noise, .inl (cI, 8, .inl o_noise_v)), (o_kind, .inl (cI, 6, .inl o_kind_v)), (o_looks, .inl (cI, 6, .inl o_looks_v)), (o_repeat, .inl (cI, 8, .inl o_repeat_v)), (o_price, .inl (cI, 6, .inl o_price_v)), (o_breath, .inl (cI, 6, .inl o_breath_v))]) [0, 1, 7] [2, 3, 4, 5, 6] [5, 6, 0, 1, 2, 3, 4, 7] rfl rfl rfl (by decide) rfl rfl (fun hB21 H locs hP hD hS => ?_)
              refine lv_iload hx hb dX5_tryThing_161 (lv_at hl 0 rfl) ?_
              subst hu
              exact hg_rzE hx hb hr hlk (by decide) rfl hB21 hP hD hS dX5_tryThing_163
        · have hu := hu.trans (if_neg c_1_3)
          by_cases c_1_4 : x0 = 4
          · have hu := hu.trans (if_pos c_1_4)
            refine lv_tableIn (off := 163) (tgt := 164) hx hb dX5_tryThing_1 (by rw [c_1_4]; decide) (by rw [c_1_4]; decide) (by rw [c_1_4]; rfl) (by decide) ?_
            refine lv_iload_n hx hb dX5_tryThing_164 rfl (lv_at hl 2 rfl) ?_
            refine lv_if_ne (tgt := 181) hx hb dX5_tryThing_165 (by decide) (fun c_165 => ?_) (fun c_165 => ?_)
            · have hu := hu.trans (if_neg c_165)
              refine lv_iconst (v := 0) hx hb dX5_tryThing_181 (by decide) ?_
              subst hu
              exact hg_rzE hx hb hr hlk (by decide) rfl hB hP hD hS dX5_tryThing_182
            · have hu := hu.trans (if_pos c_165)
              refine lv_aload_n hx hb dX5_tryThing_168 rfl (lv_at hl 0 rfl) ?_
              refine lv_iconst (v := 1) hx hb dX5_tryThing_169 (by decide) ?_
              refine lv_iload_n hx hb dX5_tryThing_170 rfl (lv_at hl 3 rfl) ?_
              obtain ⟨r22, er22, hu⟩ := lxb_o hu
              refine hg_ci (va_runV (As := [.int 1, .int x2]) (rest := []) ⟨hx, hb, hml, hown, hts⟩ (c_X5_plays l dC dI cI cZ cM _ o_h 1 x2 o_players o_bars o_price o_breath o_kind o_looks o_noise o_repeat o_now o_readPlayer o_readBar o_readPlayers o_readBars o_text o_length o_at o_faultAt o_acts o_next o_row o_heard o_heardOf o_heardBars o_heardPlays o_hushWho o_hushSum o_seed o_isKept o_kept o_now_v np enp (by omega) nb enb (by omega) 1 (show (1 : Int32) = nI 1 from rfl) (by omega) r22 er22) (cwV 2 hts gX5_tryThing_X5_plays rfl rfl rfl (by decide +kernel) ⟨Nat.le_of_ble_eq_true rfl, Nat.le_of_ble_eq_true rfl⟩) (hgPreV (C := RX5) (T := TX5) (N := 29) (ci := 5) (q0 := 0) hP hD hK hN [0, 1] rfl rfl rfl rfl) rfl rfl hl.1 rfl (lv_room (Nat.le_of_ble_eq_true rfl)) dX5_tryThing_171 ⟨Nat.zero_le _, Nat.zero_le _⟩) hP hD hS hA (wr := [(o_noise, .inl (cI, 8, .inl o_noise_v)), (o_kind, .inl (cI, 6, .inl o_kind_v)), (o_looks, .inl (cI, 6, .inl o_looks_v)), (o_repeat, .inl (cI, 8, .inl o_repeat_v)), (o_price, .inl (cI, 6, .inl o_price_v)), (o_breath, .inl (cI, 6, .inl o_breath_v))]) (wf := [(o_h, .inr (5, [.int o_players, .int o_bars, .ref o_price, .ref o_breath, .ref o_kind, .ref o_looks, .ref o_noise, .ref o_repeat, .ref o_now, .ref o_readPlayer, .ref o_readBar, .int o_readPlayers, .int o_readBars, .ref o_text, .int o_length, .int o_at, .int o_faultAt, .int o_acts, .int o_next, .ref o_row, .int o_heard, .ref o_heardOf, .ref o_heardBars, .ref o_heardPlays, .int o_hushWho, .int o_hushSum, .long o_seed, .ref o_isKept, .ref o_kept])), (o_now, .inl (cI, 32, .inl o_now_v)), (o_noise, .inl (cI, 8, .inl o_noise_v)), (o_kind, .inl (cI, 6, .inl o_kind_v)), (o_looks, .inl (cI, 6, .inl o_looks_v)), (o_repeat, .inl (cI, 8, .inl o_repeat_v)), (o_price, .inl (cI, 6, .inl o_price_v)), (o_breath, .inl (cI, 6, .inl o_breath_v))]) [0, 1] [2, 3, 4, 5, 6, 7] [6, 7, 0, 1, 2, 3, 4, 5] rfl rfl rfl (by decide) rfl rfl (fun H locs hP hD hS => ?_)
              refine lv_if_eq (tgt := 181) hx hb dX5_tryThing_174 (by decide) (fun c_174 => ?_) (fun c_174 => ?_)
              · have hu := hu.trans (if_pos c_174)
                refine lv_iconst (v := 0) hx hb dX5_tryThing_181 (by decide) ?_
                subst hu
                exact hg_rzE hx hb hr hlk (by decide) rfl hB hP hD hS dX5_tryThing_182
              · have hu := hu.trans (if_neg c_174)
                refine lv_iconst (v := 1) hx hb dX5_tryThing_177 (by decide) ?_
                refine lv_goto (tgt := 182) hx hb dX5_tryThing_178 (by decide) ?_
                subst hu
                exact hg_rzE hx hb hr hlk (by decide) rfl hB hP hD hS dX5_tryThing_182
          · have hu := hu.trans (if_neg c_1_4)
            by_cases c_1_5 : x0 = 5
            · have hu := hu.trans (if_pos c_1_5)
              refine lv_tableIn (off := 182) (tgt := 183) hx hb dX5_tryThing_1 (by rw [c_1_5]; decide) (by rw [c_1_5]; decide) (by rw [c_1_5]; rfl) (by decide) ?_
              refine lv_aload_n hx hb dX5_tryThing_183 rfl (lv_at hl 0 rfl) ?_
              refine va_get (D := (dC, dI)) (ci := 5) (v := .ref o_now) (C := RX5) (T := TX5) (N := 29) hx hb hts hinX5 hown hK hP 0 rfl rfl 8 (by decide) w1 (fun _ h9 => h9) rfl dX5_tryThing_184 ?_
              refine lv_bipush (v := 30) hx hb dX5_tryThing_187 (by decide) ?_
              refine va_iald hx hb hK hP 1 0 rfl rfl (n := 32) (f := o_now_v) (hg_in (n := 30) (N := 32) (show (30 : Int32) = nI 30 from rfl) (by omega) (by decide)) dX5_tryThing_189 ?_
              refine lv_bipush (v := 10) hx hb dX5_tryThing_190 (by decide) ?_
              refine lv_iload_n hx hb dX5_tryThing_192 rfl (lv_at hl 2 rfl) ?_
              refine lv_imul hx hb dX5_tryThing_193 ?_
              refine lv_iload_n hx hb dX5_tryThing_194 rfl (lv_at hl 3 rfl) ?_
              refine lv_iadd hx hb dX5_tryThing_195 ?_
              refine lv_icmp_lt (tgt := 203) hx hb dX5_tryThing_196 (by decide) (fun c_196 => ?_) (fun c_196 => ?_)
              · have hu := hu.trans (if_pos c_196)
                refine lv_iconst (v := 0) hx hb dX5_tryThing_203 (by decide) ?_
                subst hu
                exact hg_rzE hx hb hr hlk (by decide) rfl hB hP hD hS dX5_tryThing_204
              · have hu := hu.trans (if_neg c_196)
                refine lv_iconst (v := 1) hx hb dX5_tryThing_199 (by decide) ?_
                refine lv_goto (tgt := 204) hx hb dX5_tryThing_200 (by decide) ?_
                subst hu
                exact hg_rzE hx hb hr hlk (by decide) rfl hB hP hD hS dX5_tryThing_204
            · have hu := hu.trans (if_neg c_1_5)
              refine lv_tableOut (tgt := 205) hx hb dX5_tryThing_1 (hg_tout (lo := 0) (hi := 5) (fun j h1 h2 e => by rcases (show j = 0 ∨ j = 1 ∨ j = 2 ∨ j = 3 ∨ j = 4 ∨ j = 5 by omega) with rfl | rfl | rfl | rfl | rfl | rfl <;> first | exact c_1_0 e | exact c_1_1 e | exact c_1_2 e | exact c_1_3 e | exact c_1_4 e | exact c_1_5 e)) (by decide) ?_
              refine lv_iconst (v := 0) hx hb dX5_tryThing_205 (by decide) ?_
              subst hu
              exact hg_rzE hx hb hr hlk (by decide) rfl hB hP hD hS dX5_tryThing_206

set_option maxHeartbeats 4000000 in
set_option maxRecDepth 100000 in
theorem c_X5_thousandTo (l : Launch) (dC : Nat → ClassId) (dI : Nat → Nat → Nat) (cI cZ cM : ClassId) (sz : Nat) (x0 : Int32) (u : Int64) (hu : u = f_X5_thousandTo x0) : Met l yX5_thousandTo wsX5_thousandTo { frames := 0, cells := 0, slots := 0, locals := 0 } (hgPc [.int x0] (dC, dI) cI cZ cM [] sz) (hgQl (dC, dI) u [] (va_A [] sz)) 0 0 (va_A [] sz) := by
  refine hg_ofW (cc := cX5_thousandTo) (maxL := 4) (ret := (some .long)) (own := RX5) (fun A => hgQl (dC, dI) u [] A) rfl (by decide) rfl (Nat.le_of_ble_eq_true rfl) ?_
  intro p e s m below meth c ls A hsz hx hb hr hml hown hts hlk hnm hK hN hA hP hD hS hl
  subst hsz
  have w1 := hts (.constantLong RX5 187 (1000)) (List.mem_of_getElem? (i := 1) rfl)
  have hl : lv_has ls 4 [(0, .int x0)] := hl
  unfold f_X5_thousandTo at hu
  refine lv_lconst (v := 1) hx hb dX5_thousandTo_0 (by decide) ?_
  refine lv_lstore_n (lv' := [(1, .long 1), (0, .int x0)]) hx hb dX5_thousandTo_1 rfl hl (by decide) rfl (fun ls hl => ?_)
  refine lv_iconst (v := 0) hx hb dX5_thousandTo_2 (by decide) ?_
  refine lv_istore_n (lv' := [(3, .int 0), (1, .long 1), (0, .int x0)]) hx hb dX5_thousandTo_3 rfl hl (by decide) rfl (fun ls hl => ?_)
  obtain ⟨r1, er1, hu⟩ := lxb_o hu
  refine hg_loopF (T := Int64) (N := (itn 0 x0)) (fun v4 => []) (fun k4 v4 => [(0, .int x0), (1, .long v4), (3, .int (nI k4))]) (fun k4 => l_X5_thousandTo_4 1 k4) ?_ ?_ hP hD hS (lv_sub hl [2, 1, 0] rfl)
  · intro v4 hv H locs ls hP hD hS hl
    obtain rfl : r1 = v4 := er1.trans hv.symm
    have hP : va_P (dC, dI) vwCl [] H := hP
    have hD : va_D A [] := hD
    have hl : lv_has ls 4 [(0, .int x0), (1, .long r1), (3, .int (nI (itn 0 x0)))] := hl
    refine lv_iload_n hx hb dX5_thousandTo_4 rfl (lv_at hl 2 rfl) ?_
    refine lv_iload_n hx hb dX5_thousandTo_5 rfl (lv_at hl 0 rfl) ?_
    refine lv_icmp_ge (tgt := 21) hx hb dX5_thousandTo_6 (by decide) (fun c_6 => ?_) (fun c_6 => absurd hg_lo0 c_6)
    refine lv_lload_n hx hb dX5_thousandTo_21 rfl (lv_at hl 1 rfl) ?_
    subst hu
    exact hg_rl hx hb hr hlk rfl hP hD hS dX5_thousandTo_22
  · intro k4 hk v4 hv w hw ih H locs ls hP hD hS hl
    have hw : w = b_X5_thousandTo_4 k4 v4 := by rw [hw, hv]; rfl
    unfold b_X5_thousandTo_4 at hw
    have hP : va_P (dC, dI) vwCl [] H := hP
    have hD : va_D A [] := hD
    have hl : lv_has ls 4 [(0, .int x0), (1, .long v4), (3, .int (nI k4))] := hl
    refine lv_iload_n hx hb dX5_thousandTo_4 rfl (lv_at hl 2 rfl) ?_
    refine lv_iload_n hx hb dX5_thousandTo_5 rfl (lv_at hl 0 rfl) ?_
    refine lv_icmp_ge (tgt := 21) hx hb dX5_thousandTo_6 (by decide) (fun c_6 => absurd c_6 (hg_lo1 hk)) (fun c_6 => ?_)
    refine lv_lload_n hx hb dX5_thousandTo_9 rfl (lv_at hl 1 rfl) ?_
    refine lv_ldc2 (v := 1000) hx hb hown w1 dX5_thousandTo_10 ?_
    refine lv_lmul hx hb dX5_thousandTo_13 ?_
    refine lv_lstore_n (lv' := [(1, .long (v4 * 1000)), (0, .int x0), (3, .int (nI k4))]) hx hb dX5_thousandTo_14 rfl hl (by decide) rfl (fun ls hl => ?_)
    refine lv_iinc (v := nI (k4 + 1)) (lv' := [(3, .int (nI (k4 + 1))), (1, .long (v4 * 1000)), (0, .int x0)]) hx hb dX5_thousandTo_15 hl (k := 2) rfl (nI_1 k4) (by decide) rfl (fun ls hl => ?_)
    refine lv_goto (tgt := 4) hx hb dX5_thousandTo_18 (by decide) ?_
    subst hw
    exact ih _ _ _ hP hD hS (lv_sub hl [2, 1, 0] rfl)

set_option maxHeartbeats 4000000 in
set_option maxRecDepth 100000 in
theorem c_X5_judge (l : Launch) (dC : Nat → ClassId) (dI : Nat → Nat → Nat) (cI cZ cM : ClassId) (sz : Nat) (o_h : Nat) (x0 : Int32) (x1 : Int64) (o_players : Int32) (o_bars : Int32) (o_price : Nat) (o_breath : Nat) (o_kind : Nat) (o_looks : Nat) (o_noise : Nat) (o_repeat : Nat) (o_now : Nat) (o_readPlayer : Nat) (o_readBar : Nat) (o_readPlayers : Int32) (o_readBars : Int32) (o_text : Nat) (o_length : Int32) (o_at : Int32) (o_faultAt : Int32) (o_acts : Int32) (o_next : Int32) (o_row : Nat) (o_heard : Int32) (o_heardOf : Nat) (o_heardBars : Nat) (o_heardPlays : Nat) (o_hushWho : Int32) (o_hushSum : Int32) (o_seed : Int64) (o_isKept : Nat) (o_kept : Nat) (o_now_v : Nat → Int32) (o_noise_v : Nat → Int32) (o_kind_v : Nat → Int32) (o_looks_v : Nat → Int32) (o_repeat_v : Nat → Int32) (o_price_v : Nat → Int32) (o_breath_v : Nat → Int32) (np : Nat) (enp : o_players = nI np) (hnp : np ≤ 6) (nb : Nat) (enb : o_bars = nI nb) (hnb : nb ≤ 8) (hB : mB o_now_v) (u : Int32 × (Nat → Int32)) (hu : u = f_X5_judge x0 x1 o_players o_bars o_now_v o_noise_v o_kind_v o_looks_v o_repeat_v o_price_v o_breath_v) : Met l yX5_judge wsX5_judge { frames := 6, cells := 0, slots := 0, locals := 144 } (hgPc [.ref o_h, .int x0, .long x1] (dC, dI) cI cZ cM [(o_h, .inr (5, [.int o_players, .int o_bars, .ref o_price, .ref o_breath, .ref o_kind, .ref o_looks, .ref o_noise, .ref o_repeat, .ref o_now, .ref o_readPlayer, .ref o_readBar, .int o_readPlayers, .int o_readBars, .ref o_text, .int o_length, .int o_at, .int o_faultAt, .int o_acts, .int o_next, .ref o_row, .int o_heard, .ref o_heardOf, .ref o_heardBars, .ref o_heardPlays, .int o_hushWho, .int o_hushSum, .long o_seed, .ref o_isKept, .ref o_kept])), (o_now, .inl (cI, 32, .inl o_now_v)), (o_noise, .inl (cI, 8, .inl o_noise_v)), (o_kind, .inl (cI, 6, .inl o_kind_v)), (o_looks, .inl (cI, 6, .inl o_looks_v)), (o_repeat, .inl (cI, 8, .inl o_repeat_v)), (o_price, .inl (cI, 6, .inl o_price_v)), (o_breath, .inl (cI, 6, .inl o_breath_v))] sz) (hgQi (dC, dI) u.1 [(o_h, .inr (5, [.int o_players, .int o_bars, .ref o_price, .ref o_breath, .ref o_kind, .ref o_looks, .ref o_noise, .ref o_repeat, .ref o_now, .ref o_readPlayer, .ref o_readBar, .int o_readPlayers, .int o_readBars, .ref o_text, .int o_length, .int o_at, .int o_faultAt, .int o_acts, .int o_next, .ref o_row, .int o_heard, .ref o_heardOf, .ref o_heardBars, .ref o_heardPlays, .int o_hushWho, .int o_hushSum, .long o_seed, .ref o_isKept, .ref o_kept])), (o_now, .inl (cI, 32, .inl u.2)), (o_noise, .inl (cI, 8, .inl o_noise_v)), (o_kind, .inl (cI, 6, .inl o_kind_v)), (o_looks, .inl (cI, 6, .inl o_looks_v)), (o_repeat, .inl (cI, 8, .inl o_repeat_v)), (o_price, .inl (cI, 6, .inl o_price_v)), (o_breath, .inl (cI, 6, .inl o_breath_v))] (va_A [(o_h, .inr (5, [.int o_players, .int o_bars, .ref o_price, .ref o_breath, .ref o_kind, .ref o_looks, .ref o_noise, .ref o_repeat, .ref o_now, .ref o_readPlayer, .ref o_readBar, .int o_readPlayers, .int o_readBars, .ref o_text, .int o_length, .int o_at, .int o_faultAt, .int o_acts, .int o_next, .ref o_row, .int o_heard, .ref o_heardOf, .ref o_heardBars, .ref o_heardPlays, .int o_hushWho, .int o_hushSum, .long o_seed, .ref o_isKept, .ref o_kept])), (o_now, .inl (cI, 32, .inl o_now_v)), (o_noise, .inl (cI, 8, .inl o_noise_v)), (o_kind, .inl (cI, 6, .inl o_kind_v)), (o_looks, .inl (cI, 6, .inl o_looks_v)), (o_repeat, .inl (cI, 8, .inl o_repeat_v)), (o_price, .inl (cI, 6, .inl o_price_v)), (o_breath, .inl (cI, 6, .inl o_breath_v))] sz)) 0 0 (va_A [(o_h, .inr (5, [.int o_players, .int o_bars, .ref o_price, .ref o_breath, .ref o_kind, .ref o_looks, .ref o_noise, .ref o_repeat, .ref o_now, .ref o_readPlayer, .ref o_readBar, .int o_readPlayers, .int o_readBars, .ref o_text, .int o_length, .int o_at, .int o_faultAt, .int o_acts, .int o_next, .ref o_row, .int o_heard, .ref o_heardOf, .ref o_heardBars, .ref o_heardPlays, .int o_hushWho, .int o_hushSum, .long o_seed, .ref o_isKept, .ref o_kept])), (o_now, .inl (cI, 32, .inl o_now_v)), (o_noise, .inl (cI, 8, .inl o_noise_v)), (o_kind, .inl (cI, 6, .inl o_kind_v)), (o_looks, .inl (cI, 6, .inl o_looks_v)), (o_repeat, .inl (cI, 8, .inl o_repeat_v)), (o_price, .inl (cI, 6, .inl o_price_v)), (o_breath, .inl (cI, 6, .inl o_breath_v))] sz) := by
  refine hg_ofW (cc := cX5_judge) (maxL := 6) (ret := (some .int)) (own := RX5) (fun A => hgQi (dC, dI) u.1 [(o_h, .inr (5, [.int o_players, .int o_bars, .ref o_price, .ref o_breath, .ref o_kind, .ref o_looks, .ref o_noise, .ref o_repeat, .ref o_now, .ref o_readPlayer, .ref o_readBar, .int o_readPlayers, .int o_readBars, .ref o_text, .int o_length, .int o_at, .int o_faultAt, .int o_acts, .int o_next, .ref o_row, .int o_heard, .ref o_heardOf, .ref o_heardBars, .ref o_heardPlays, .int o_hushWho, .int o_hushSum, .long o_seed, .ref o_isKept, .ref o_kept])), (o_now, .inl (cI, 32, .inl u.2)), (o_noise, .inl (cI, 8, .inl o_noise_v)), (o_kind, .inl (cI, 6, .inl o_kind_v)), (o_looks, .inl (cI, 6, .inl o_looks_v)), (o_repeat, .inl (cI, 8, .inl o_repeat_v)), (o_price, .inl (cI, 6, .inl o_price_v)), (o_breath, .inl (cI, 6, .inl o_breath_v))] A) rfl (by decide) rfl (Nat.le_of_ble_eq_true rfl) ?_
  intro p e s m below meth c ls A hsz hx hb hr hml hown hts hlk hnm hK hN hA hP hD hS hl
  subst hsz
  have w1 := hts (.constantLong RX5 189 (4)) (List.mem_of_getElem? (i := 1) rfl)
  have w2 := hts (.constantLong RX5 187 (1000)) (List.mem_of_getElem? (i := 2) rfl)
  have hl : lv_has ls 6 [(0, .ref o_h), (1, .int x0), (2, .long x1)] := hl
  unfold f_X5_judge at hu
  refine lv_iload_n hx hb dX5_judge_0 rfl (lv_at hl 1 rfl) ?_
  refine lv_i2l (v := (Int32.toInt64 x0)) hx hb dX5_judge_1 rfl ?_
  refine lv_lconst (v := 1) hx hb dX5_judge_2 (by decide) ?_
  refine lv_ldc2 (v := 4) hx hb hown w1 dX5_judge_3 ?_
  obtain ⟨r1, er1, hu⟩ := lxb_o hu
  refine hg_ci (va_runS (As := [.long (Int32.toInt64 x0), .long 1, .long 4]) (rest := []) ⟨hx, hb, hml, hown, hts⟩ (c_X5_in l dC dI cI cZ cM _ (Int32.toInt64 x0) 1 4 r1 er1) (va_cwS 3 hts gX5_judge_X5_in rfl rfl rfl (by decide +kernel) ⟨Nat.le_of_ble_eq_true rfl, Nat.le_of_ble_eq_true rfl⟩) (hgPreS hP hD hK hN [] rfl rfl) rfl rfl hl.1 rfl (lv_room (Nat.le_of_ble_eq_true rfl)) dX5_judge_6 ⟨Nat.zero_le _, Nat.zero_le _⟩) hP hD hS hA (wr := [(o_h, .inr (5, [.int o_players, .int o_bars, .ref o_price, .ref o_breath, .ref o_kind, .ref o_looks, .ref o_noise, .ref o_repeat, .ref o_now, .ref o_readPlayer, .ref o_readBar, .int o_readPlayers, .int o_readBars, .ref o_text, .int o_length, .int o_at, .int o_faultAt, .int o_acts, .int o_next, .ref o_row, .int o_heard, .ref o_heardOf, .ref o_heardBars, .ref o_heardPlays, .int o_hushWho, .int o_hushSum, .long o_seed, .ref o_isKept, .ref o_kept])), (o_now, .inl (cI, 32, .inl o_now_v)), (o_noise, .inl (cI, 8, .inl o_noise_v)), (o_kind, .inl (cI, 6, .inl o_kind_v)), (o_looks, .inl (cI, 6, .inl o_looks_v)), (o_repeat, .inl (cI, 8, .inl o_repeat_v)), (o_price, .inl (cI, 6, .inl o_price_v)), (o_breath, .inl (cI, 6, .inl o_breath_v))]) (wf := [(o_h, .inr (5, [.int o_players, .int o_bars, .ref o_price, .ref o_breath, .ref o_kind, .ref o_looks, .ref o_noise, .ref o_repeat, .ref o_now, .ref o_readPlayer, .ref o_readBar, .int o_readPlayers, .int o_readBars, .ref o_text, .int o_length, .int o_at, .int o_faultAt, .int o_acts, .int o_next, .ref o_row, .int o_heard, .ref o_heardOf, .ref o_heardBars, .ref o_heardPlays, .int o_hushWho, .int o_hushSum, .long o_seed, .ref o_isKept, .ref o_kept])), (o_now, .inl (cI, 32, .inl o_now_v)), (o_noise, .inl (cI, 8, .inl o_noise_v)), (o_kind, .inl (cI, 6, .inl o_kind_v)), (o_looks, .inl (cI, 6, .inl o_looks_v)), (o_repeat, .inl (cI, 8, .inl o_repeat_v)), (o_price, .inl (cI, 6, .inl o_price_v)), (o_breath, .inl (cI, 6, .inl o_breath_v))]) [] [0, 1, 2, 3, 4, 5, 6, 7] [0, 1, 2, 3, 4, 5, 6, 7] rfl rfl rfl (by decide) rfl rfl (fun H locs hP hD hS => ?_)
  refine lv_if_eq (tgt := 26) hx hb dX5_judge_9 (by decide) (fun c_9 => ?_) (fun c_9 => ?_)
  · have hu := hu.trans (if_pos c_9)
    refine lv_bipush (v := (-2)) hx hb dX5_judge_26 (by decide) ?_
    subst hu
    exact hg_ri hx hb hr hlk rfl hP hD hS dX5_judge_28
  · have hu := hu.trans (if_neg c_9)
    obtain ⟨jn, hjn, ejn⟩ := mJ er1 c_9
    refine lv_lload_n hx hb dX5_judge_12 rfl (lv_at hl 2 rfl) ?_
    refine lv_lconst (v := 0) hx hb dX5_judge_13 (by decide) ?_
    refine lv_iload_n hx hb dX5_judge_14 rfl (lv_at hl 1 rfl) ?_
    obtain ⟨r2, er2, hu⟩ := lxb_o hu
    refine hg_cl (va_runS (As := [.int x0]) (rest := [.long 0, .long x1]) ⟨hx, hb, hml, hown, hts⟩ (c_X5_thousandTo l dC dI cI cZ cM _ x0 r2 er2) (va_cwS 1 hts gX5_judge_X5_thousandTo rfl rfl rfl (by decide +kernel) ⟨Nat.le_of_ble_eq_true rfl, Nat.le_of_ble_eq_true rfl⟩) (hgPreS hP hD hK hN [] rfl rfl) rfl rfl hl.1 rfl (lv_room (Nat.le_of_ble_eq_true rfl)) dX5_judge_15 ⟨Nat.zero_le _, Nat.zero_le _⟩) hP hD hS hA (wr := [(o_h, .inr (5, [.int o_players, .int o_bars, .ref o_price, .ref o_breath, .ref o_kind, .ref o_looks, .ref o_noise, .ref o_repeat, .ref o_now, .ref o_readPlayer, .ref o_readBar, .int o_readPlayers, .int o_readBars, .ref o_text, .int o_length, .int o_at, .int o_faultAt, .int o_acts, .int o_next, .ref o_row, .int o_heard, .ref o_heardOf, .ref o_heardBars, .ref o_heardPlays, .int o_hushWho, .int o_hushSum, .long o_seed, .ref o_isKept, .ref o_kept])), (o_now, .inl (cI, 32, .inl o_now_v)), (o_noise, .inl (cI, 8, .inl o_noise_v)), (o_kind, .inl (cI, 6, .inl o_kind_v)), (o_looks, .inl (cI, 6, .inl o_looks_v)), (o_repeat, .inl (cI, 8, .inl o_repeat_v)), (o_price, .inl (cI, 6, .inl o_price_v)), (o_breath, .inl (cI, 6, .inl o_breath_v))]) (wf := [(o_h, .inr (5, [.int o_players, .int o_bars, .ref o_price, .ref o_breath, .ref o_kind, .ref o_looks, .ref o_noise, .ref o_repeat, .ref o_now, .ref o_readPlayer, .ref o_readBar, .int o_readPlayers, .int o_readBars, .ref o_text, .int o_length, .int o_at, .int o_faultAt, .int o_acts, .int o_next, .ref o_row, .int o_heard, .ref o_heardOf, .ref o_heardBars, .ref o_heardPlays, .int o_hushWho, .int o_hushSum, .long o_seed, .ref o_isKept, .ref o_kept])), (o_now, .inl (cI, 32, .inl o_now_v)), (o_noise, .inl (cI, 8, .inl o_noise_v)), (o_kind, .inl (cI, 6, .inl o_kind_v)), (o_looks, .inl (cI, 6, .inl o_looks_v)), (o_repeat, .inl (cI, 8, .inl o_repeat_v)), (o_price, .inl (cI, 6, .inl o_price_v)), (o_breath, .inl (cI, 6, .inl o_breath_v))]) [] [0, 1, 2, 3, 4, 5, 6, 7] [0, 1, 2, 3, 4, 5, 6, 7] rfl rfl rfl (by decide) rfl rfl (fun H locs hP hD hS => ?_)
    refine lv_lconst (v := 1) hx hb dX5_judge_18 (by decide) ?_
    refine lv_lsub hx hb dX5_judge_19 ?_
    obtain ⟨r3, er3, hu⟩ := lxb_o hu
    refine hg_ci (va_runS (As := [.long x1, .long 0, .long (r2 - 1)]) (rest := []) ⟨hx, hb, hml, hown, hts⟩ (c_X5_in l dC dI cI cZ cM _ x1 0 (r2 - 1) r3 er3) (va_cwS 3 hts gX5_judge_X5_in rfl rfl rfl (by decide +kernel) ⟨Nat.le_of_ble_eq_true rfl, Nat.le_of_ble_eq_true rfl⟩) (hgPreS hP hD hK hN [] rfl rfl) rfl rfl hl.1 rfl (lv_room (Nat.le_of_ble_eq_true rfl)) dX5_judge_20 ⟨Nat.zero_le _, Nat.zero_le _⟩) hP hD hS hA (wr := [(o_h, .inr (5, [.int o_players, .int o_bars, .ref o_price, .ref o_breath, .ref o_kind, .ref o_looks, .ref o_noise, .ref o_repeat, .ref o_now, .ref o_readPlayer, .ref o_readBar, .int o_readPlayers, .int o_readBars, .ref o_text, .int o_length, .int o_at, .int o_faultAt, .int o_acts, .int o_next, .ref o_row, .int o_heard, .ref o_heardOf, .ref o_heardBars, .ref o_heardPlays, .int o_hushWho, .int o_hushSum, .long o_seed, .ref o_isKept, .ref o_kept])), (o_now, .inl (cI, 32, .inl o_now_v)), (o_noise, .inl (cI, 8, .inl o_noise_v)), (o_kind, .inl (cI, 6, .inl o_kind_v)), (o_looks, .inl (cI, 6, .inl o_looks_v)), (o_repeat, .inl (cI, 8, .inl o_repeat_v)), (o_price, .inl (cI, 6, .inl o_price_v)), (o_breath, .inl (cI, 6, .inl o_breath_v))]) (wf := [(o_h, .inr (5, [.int o_players, .int o_bars, .ref o_price, .ref o_breath, .ref o_kind, .ref o_looks, .ref o_noise, .ref o_repeat, .ref o_now, .ref o_readPlayer, .ref o_readBar, .int o_readPlayers, .int o_readBars, .ref o_text, .int o_length, .int o_at, .int o_faultAt, .int o_acts, .int o_next, .ref o_row, .int o_heard, .ref o_heardOf, .ref o_heardBars, .ref o_heardPlays, .int o_hushWho, .int o_hushSum, .long o_seed, .ref o_isKept, .ref o_kept])), (o_now, .inl (cI, 32, .inl o_now_v)), (o_noise, .inl (cI, 8, .inl o_noise_v)), (o_kind, .inl (cI, 6, .inl o_kind_v)), (o_looks, .inl (cI, 6, .inl o_looks_v)), (o_repeat, .inl (cI, 8, .inl o_repeat_v)), (o_price, .inl (cI, 6, .inl o_price_v)), (o_breath, .inl (cI, 6, .inl o_breath_v))]) [] [0, 1, 2, 3, 4, 5, 6, 7] [0, 1, 2, 3, 4, 5, 6, 7] rfl rfl rfl (by decide) rfl rfl (fun H locs hP hD hS => ?_)
    refine lv_if_ne (tgt := 29) hx hb dX5_judge_23 (by decide) (fun c_23 => ?_) (fun c_23 => ?_)
    · have hu := hu.trans (if_neg c_23)
      refine lv_aload_n hx hb dX5_judge_29 rfl (lv_at hl 0 rfl) ?_
      obtain ⟨r4, er4, hu⟩ := lxb_o hu
      refine hg_cvE (va_runV (As := []) (rest := []) ⟨hx, hb, hml, hown, hts⟩ (c_X5_layTrial l dC dI cI cZ cM _ o_h o_players o_bars o_price o_breath o_kind o_looks o_noise o_repeat o_now o_readPlayer o_readBar o_readPlayers o_readBars o_text o_length o_at o_faultAt o_acts o_next o_row o_heard o_heardOf o_heardBars o_heardPlays o_hushWho o_hushSum o_seed o_isKept o_kept o_now_v np enp (by omega) nb enb (by omega) hB r4 er4) (cwV 0 hts gX5_judge_X5_layTrial rfl rfl rfl (by decide +kernel) ⟨Nat.le_of_ble_eq_true rfl, Nat.le_of_ble_eq_true rfl⟩) (hgPreV (C := RX5) (T := TX5) (N := 29) (ci := 5) (q0 := 0) hP hD hK hN [0, 1] rfl rfl rfl rfl) rfl rfl hl.1 rfl (lv_room (Nat.le_of_ble_eq_true rfl)) dX5_judge_30 ⟨Nat.zero_le _, Nat.zero_le _⟩) hP hD hS hA (wr := [(o_noise, .inl (cI, 8, .inl o_noise_v)), (o_kind, .inl (cI, 6, .inl o_kind_v)), (o_looks, .inl (cI, 6, .inl o_looks_v)), (o_repeat, .inl (cI, 8, .inl o_repeat_v)), (o_price, .inl (cI, 6, .inl o_price_v)), (o_breath, .inl (cI, 6, .inl o_breath_v))]) (wf := [(o_h, .inr (5, [.int o_players, .int o_bars, .ref o_price, .ref o_breath, .ref o_kind, .ref o_looks, .ref o_noise, .ref o_repeat, .ref o_now, .ref o_readPlayer, .ref o_readBar, .int o_readPlayers, .int o_readBars, .ref o_text, .int o_length, .int o_at, .int o_faultAt, .int o_acts, .int o_next, .ref o_row, .int o_heard, .ref o_heardOf, .ref o_heardBars, .ref o_heardPlays, .int o_hushWho, .int o_hushSum, .long o_seed, .ref o_isKept, .ref o_kept])), (o_now, .inl (cI, 32, .inl r4)), (o_noise, .inl (cI, 8, .inl o_noise_v)), (o_kind, .inl (cI, 6, .inl o_kind_v)), (o_looks, .inl (cI, 6, .inl o_looks_v)), (o_repeat, .inl (cI, 8, .inl o_repeat_v)), (o_price, .inl (cI, 6, .inl o_price_v)), (o_breath, .inl (cI, 6, .inl o_breath_v))]) [0, 1] [2, 3, 4, 5, 6, 7] [6, 7, 0, 1, 2, 3, 4, 5] rfl rfl rfl (by decide) rfl rfl (fun hB5 H locs hP hD hS => ?_)
      refine lv_iconst (v := 0) hx hb dX5_judge_33 (by decide) ?_
      refine lv_istore (lv' := [(4, .int 0), (0, .ref o_h), (1, .int x0), (2, .long x1)]) hx hb dX5_judge_34 hl (by decide) rfl (fun ls hl => ?_)
      refine hg_loopSJ (T := (Nat → Int32)) (N := (itn 0 x0)) (fun v36 => (mB v36)) (fun v36 => [(o_h, .inr (5, [.int o_players, .int o_bars, .ref o_price, .ref o_breath, .ref o_kind, .ref o_looks, .ref o_noise, .ref o_repeat, .ref o_now, .ref o_readPlayer, .ref o_readBar, .int o_readPlayers, .int o_readBars, .ref o_text, .int o_length, .int o_at, .int o_faultAt, .int o_acts, .int o_next, .ref o_row, .int o_heard, .ref o_heardOf, .ref o_heardBars, .ref o_heardPlays, .int o_hushWho, .int o_hushSum, .long o_seed, .ref o_isKept, .ref o_kept])), (o_now, .inl (cI, 32, .inl v36)), (o_noise, .inl (cI, 8, .inl o_noise_v)), (o_kind, .inl (cI, 6, .inl o_kind_v)), (o_looks, .inl (cI, 6, .inl o_looks_v)), (o_repeat, .inl (cI, 8, .inl o_repeat_v)), (o_price, .inl (cI, 6, .inl o_price_v)), (o_breath, .inl (cI, 6, .inl o_breath_v))]) (fun k36 v36 => [(0, .ref o_h), (1, .int x0), (2, .long x1), (4, .int (nI k36))]) (fun n36 k36 v36 => l_X5_judge_36 x0 x1 o_players o_bars o_noise_v o_kind_v o_looks_v o_repeat_v o_price_v o_breath_v n36 k36 v36) r4 hB5 hu ?_ ?_ hP hD hS (lv_sub hl [1, 2, 3, 0] rfl)
      · intro v36 hJ36 hu H locs ls hP hD hS hl
        rw [l_X5_judge_36] at hu
        have hP : va_P (dC, dI) vwCl [(o_h, .inr (5, [.int o_players, .int o_bars, .ref o_price, .ref o_breath, .ref o_kind, .ref o_looks, .ref o_noise, .ref o_repeat, .ref o_now, .ref o_readPlayer, .ref o_readBar, .int o_readPlayers, .int o_readBars, .ref o_text, .int o_length, .int o_at, .int o_faultAt, .int o_acts, .int o_next, .ref o_row, .int o_heard, .ref o_heardOf, .ref o_heardBars, .ref o_heardPlays, .int o_hushWho, .int o_hushSum, .long o_seed, .ref o_isKept, .ref o_kept])), (o_now, .inl (cI, 32, .inl v36)), (o_noise, .inl (cI, 8, .inl o_noise_v)), (o_kind, .inl (cI, 6, .inl o_kind_v)), (o_looks, .inl (cI, 6, .inl o_looks_v)), (o_repeat, .inl (cI, 8, .inl o_repeat_v)), (o_price, .inl (cI, 6, .inl o_price_v)), (o_breath, .inl (cI, 6, .inl o_breath_v))] H := hP
        have hD : va_D A [(o_h, .inr (5, [.int o_players, .int o_bars, .ref o_price, .ref o_breath, .ref o_kind, .ref o_looks, .ref o_noise, .ref o_repeat, .ref o_now, .ref o_readPlayer, .ref o_readBar, .int o_readPlayers, .int o_readBars, .ref o_text, .int o_length, .int o_at, .int o_faultAt, .int o_acts, .int o_next, .ref o_row, .int o_heard, .ref o_heardOf, .ref o_heardBars, .ref o_heardPlays, .int o_hushWho, .int o_hushSum, .long o_seed, .ref o_isKept, .ref o_kept])), (o_now, .inl (cI, 32, .inl v36)), (o_noise, .inl (cI, 8, .inl o_noise_v)), (o_kind, .inl (cI, 6, .inl o_kind_v)), (o_looks, .inl (cI, 6, .inl o_looks_v)), (o_repeat, .inl (cI, 8, .inl o_repeat_v)), (o_price, .inl (cI, 6, .inl o_price_v)), (o_breath, .inl (cI, 6, .inl o_breath_v))] := hD
        have hl : lv_has ls 6 [(0, .ref o_h), (1, .int x0), (2, .long x1), (4, .int (nI (itn 0 x0)))] := hl
        refine lv_iload hx hb dX5_judge_36 (lv_at hl 3 rfl) ?_
        refine lv_iload_n hx hb dX5_judge_38 rfl (lv_at hl 1 rfl) ?_
        refine lv_icmp_ge (tgt := 94) hx hb dX5_judge_39 (by decide) (fun c_39 => ?_) (fun c_39 => absurd hg_lo0 c_39)
        refine lv_bipush (v := (-9)) hx hb dX5_judge_94 (by decide) ?_
        subst hu
        exact hg_ri hx hb hr hlk rfl hP hD hS dX5_judge_96
      · intro n36 k36 hk0 v36 hJ36 hu ih H locs ls hP hD hS hl
        have hk : k36 < (itn 0 x0) := by omega
        rw [l_X5_judge_36] at hu
        have hkb : k36 + 0 < jn := hg_itn0 ejn (by omega) hk
        have hP : va_P (dC, dI) vwCl [(o_h, .inr (5, [.int o_players, .int o_bars, .ref o_price, .ref o_breath, .ref o_kind, .ref o_looks, .ref o_noise, .ref o_repeat, .ref o_now, .ref o_readPlayer, .ref o_readBar, .int o_readPlayers, .int o_readBars, .ref o_text, .int o_length, .int o_at, .int o_faultAt, .int o_acts, .int o_next, .ref o_row, .int o_heard, .ref o_heardOf, .ref o_heardBars, .ref o_heardPlays, .int o_hushWho, .int o_hushSum, .long o_seed, .ref o_isKept, .ref o_kept])), (o_now, .inl (cI, 32, .inl v36)), (o_noise, .inl (cI, 8, .inl o_noise_v)), (o_kind, .inl (cI, 6, .inl o_kind_v)), (o_looks, .inl (cI, 6, .inl o_looks_v)), (o_repeat, .inl (cI, 8, .inl o_repeat_v)), (o_price, .inl (cI, 6, .inl o_price_v)), (o_breath, .inl (cI, 6, .inl o_breath_v))] H := hP
        have hD : va_D A [(o_h, .inr (5, [.int o_players, .int o_bars, .ref o_price, .ref o_breath, .ref o_kind, .ref o_looks, .ref o_noise, .ref o_repeat, .ref o_now, .ref o_readPlayer, .ref o_readBar, .int o_readPlayers, .int o_readBars, .ref o_text, .int o_length, .int o_at, .int o_faultAt, .int o_acts, .int o_next, .ref o_row, .int o_heard, .ref o_heardOf, .ref o_heardBars, .ref o_heardPlays, .int o_hushWho, .int o_hushSum, .long o_seed, .ref o_isKept, .ref o_kept])), (o_now, .inl (cI, 32, .inl v36)), (o_noise, .inl (cI, 8, .inl o_noise_v)), (o_kind, .inl (cI, 6, .inl o_kind_v)), (o_looks, .inl (cI, 6, .inl o_looks_v)), (o_repeat, .inl (cI, 8, .inl o_repeat_v)), (o_price, .inl (cI, 6, .inl o_price_v)), (o_breath, .inl (cI, 6, .inl o_breath_v))] := hD
        have hl : lv_has ls 6 [(0, .ref o_h), (1, .int x0), (2, .long x1), (4, .int (nI k36))] := hl
        refine lv_iload hx hb dX5_judge_36 (lv_at hl 3 rfl) ?_
        refine lv_iload_n hx hb dX5_judge_38 rfl (lv_at hl 1 rfl) ?_
        refine lv_icmp_ge (tgt := 94) hx hb dX5_judge_39 (by decide) (fun c_39 => absurd c_39 (hg_lo1 hk)) (fun c_39 => ?_)
        refine lv_lload_n hx hb dX5_judge_42 rfl (lv_at hl 2 rfl) ?_
        refine lv_iload_n hx hb dX5_judge_43 rfl (lv_at hl 1 rfl) ?_
        refine lv_iconst (v := 1) hx hb dX5_judge_44 (by decide) ?_
        refine lv_isub hx hb dX5_judge_45 ?_
        refine lv_iload hx hb dX5_judge_46 (lv_at hl 3 rfl) ?_
        refine lv_isub hx hb dX5_judge_48 ?_
        obtain ⟨r6, er6, hu⟩ := lxb_o hu
        refine hg_cl (va_runS (As := [.int ((x0 - 1) - nI k36)]) (rest := [.long x1]) ⟨hx, hb, hml, hown, hts⟩ (c_X5_thousandTo l dC dI cI cZ cM _ ((x0 - 1) - nI k36) r6 er6) (va_cwS 1 hts gX5_judge_X5_thousandTo rfl rfl rfl (by decide +kernel) ⟨Nat.le_of_ble_eq_true rfl, Nat.le_of_ble_eq_true rfl⟩) (hgPreS hP hD hK hN [] rfl rfl) rfl rfl hl.1 rfl (lv_room (Nat.le_of_ble_eq_true rfl)) dX5_judge_49 ⟨Nat.zero_le _, Nat.zero_le _⟩) hP hD hS hA (wr := [(o_h, .inr (5, [.int o_players, .int o_bars, .ref o_price, .ref o_breath, .ref o_kind, .ref o_looks, .ref o_noise, .ref o_repeat, .ref o_now, .ref o_readPlayer, .ref o_readBar, .int o_readPlayers, .int o_readBars, .ref o_text, .int o_length, .int o_at, .int o_faultAt, .int o_acts, .int o_next, .ref o_row, .int o_heard, .ref o_heardOf, .ref o_heardBars, .ref o_heardPlays, .int o_hushWho, .int o_hushSum, .long o_seed, .ref o_isKept, .ref o_kept])), (o_now, .inl (cI, 32, .inl v36)), (o_noise, .inl (cI, 8, .inl o_noise_v)), (o_kind, .inl (cI, 6, .inl o_kind_v)), (o_looks, .inl (cI, 6, .inl o_looks_v)), (o_repeat, .inl (cI, 8, .inl o_repeat_v)), (o_price, .inl (cI, 6, .inl o_price_v)), (o_breath, .inl (cI, 6, .inl o_breath_v))]) (wf := [(o_h, .inr (5, [.int o_players, .int o_bars, .ref o_price, .ref o_breath, .ref o_kind, .ref o_looks, .ref o_noise, .ref o_repeat, .ref o_now, .ref o_readPlayer, .ref o_readBar, .int o_readPlayers, .int o_readBars, .ref o_text, .int o_length, .int o_at, .int o_faultAt, .int o_acts, .int o_next, .ref o_row, .int o_heard, .ref o_heardOf, .ref o_heardBars, .ref o_heardPlays, .int o_hushWho, .int o_hushSum, .long o_seed, .ref o_isKept, .ref o_kept])), (o_now, .inl (cI, 32, .inl v36)), (o_noise, .inl (cI, 8, .inl o_noise_v)), (o_kind, .inl (cI, 6, .inl o_kind_v)), (o_looks, .inl (cI, 6, .inl o_looks_v)), (o_repeat, .inl (cI, 8, .inl o_repeat_v)), (o_price, .inl (cI, 6, .inl o_price_v)), (o_breath, .inl (cI, 6, .inl o_breath_v))]) [] [0, 1, 2, 3, 4, 5, 6, 7] [0, 1, 2, 3, 4, 5, 6, 7] rfl rfl rfl (by decide) rfl rfl (fun H locs hP hD hS => ?_)
        refine lv_ldiv hx hb dX5_judge_52 (mTh ejn hjn (by omega) er6) ?_
        refine lv_ldc2 (v := 1000) hx hb hown w2 dX5_judge_53 ?_
        refine lv_lrem hx hb dX5_judge_56 (by decide) ?_
        refine lv_l2i (v := (Int64.toInt32 ((x1 / r6) - (x1 / r6) / 1000 * 1000))) hx hb dX5_judge_57 rfl ?_
        obtain ⟨y7, ey7, hu⟩ := lxb_o hu
        refine lv_topi (fun z ez => ?_)
        obtain rfl : y7 = z := ey7.trans ez.symm
        refine lv_istore (lv' := [(5, .int y7), (0, .ref o_h), (1, .int x0), (2, .long x1), (4, .int (nI k36))]) hx hb dX5_judge_58 hl (by decide) rfl (fun ls hl => ?_)
        refine lv_aload_n hx hb dX5_judge_60 rfl (lv_at hl 1 rfl) ?_
        refine lv_iload hx hb dX5_judge_61 (lv_at hl 0 rfl) ?_
        refine lv_bipush (v := 100) hx hb dX5_judge_63 (by decide) ?_
        refine lv_idiv hx hb dX5_judge_65 (by decide) ?_
        refine lv_iload hx hb dX5_judge_66 (lv_at hl 0 rfl) ?_
        refine lv_bipush (v := 10) hx hb dX5_judge_68 (by decide) ?_
        refine lv_idiv hx hb dX5_judge_70 (by decide) ?_
        refine lv_bipush (v := 10) hx hb dX5_judge_71 (by decide) ?_
        refine lv_irem hx hb dX5_judge_73 (by decide) ?_
        refine lv_iload hx hb dX5_judge_74 (lv_at hl 0 rfl) ?_
        refine lv_bipush (v := 10) hx hb dX5_judge_76 (by decide) ?_
        refine lv_irem hx hb dX5_judge_78 (by decide) ?_
        obtain ⟨r8, er8, hu⟩ := lxb_o hu
        refine hg_ciE (va_runV (As := [.int (y7 / 100), .int ((y7 / 10) - (y7 / 10) / 10 * 10), .int (y7 - y7 / 10 * 10)]) (rest := []) ⟨hx, hb, hml, hown, hts⟩ (c_X5_tryThing l dC dI cI cZ cM _ o_h (y7 / 100) ((y7 / 10) - (y7 / 10) / 10 * 10) (y7 - y7 / 10 * 10) o_players o_bars o_price o_breath o_kind o_looks o_noise o_repeat o_now o_readPlayer o_readBar o_readPlayers o_readBars o_text o_length o_at o_faultAt o_acts o_next o_row o_heard o_heardOf o_heardBars o_heardPlays o_hushWho o_hushSum o_seed o_isKept o_kept v36 o_noise_v o_kind_v o_looks_v o_repeat_v o_price_v o_breath_v np enp (by omega) nb enb (by omega) hJ36 r8 er8) (cwV 3 hts gX5_judge_X5_tryThing rfl rfl rfl (by decide +kernel) ⟨Nat.le_of_ble_eq_true rfl, Nat.le_of_ble_eq_true rfl⟩) (hgPreV (C := RX5) (T := TX5) (N := 29) (ci := 5) (q0 := 0) hP hD hK hN [0, 1, 2, 3, 4, 5, 6, 7] rfl rfl rfl rfl) rfl rfl hl.1 rfl (lv_room (Nat.le_of_ble_eq_true rfl)) dX5_judge_79 ⟨Nat.zero_le _, Nat.zero_le _⟩) hP hD hS hA (wr := []) (wf := [(o_h, .inr (5, [.int o_players, .int o_bars, .ref o_price, .ref o_breath, .ref o_kind, .ref o_looks, .ref o_noise, .ref o_repeat, .ref o_now, .ref o_readPlayer, .ref o_readBar, .int o_readPlayers, .int o_readBars, .ref o_text, .int o_length, .int o_at, .int o_faultAt, .int o_acts, .int o_next, .ref o_row, .int o_heard, .ref o_heardOf, .ref o_heardBars, .ref o_heardPlays, .int o_hushWho, .int o_hushSum, .long o_seed, .ref o_isKept, .ref o_kept])), (o_now, .inl (cI, 32, .inl r8.2)), (o_noise, .inl (cI, 8, .inl o_noise_v)), (o_kind, .inl (cI, 6, .inl o_kind_v)), (o_looks, .inl (cI, 6, .inl o_looks_v)), (o_repeat, .inl (cI, 8, .inl o_repeat_v)), (o_price, .inl (cI, 6, .inl o_price_v)), (o_breath, .inl (cI, 6, .inl o_breath_v))]) [0, 1, 2, 3, 4, 5, 6, 7] [] [0, 1, 2, 3, 4, 5, 6, 7] rfl rfl rfl (by decide) rfl rfl (fun hB9 H locs hP hD hS => ?_)
        refine lv_if_ne (tgt := 88) hx hb dX5_judge_82 (by decide) (fun c_82 => ?_) (fun c_82 => ?_)
        · have hu := hu.trans (if_neg c_82)
          refine lv_iinc (v := nI (k36 + 1)) (lv' := [(4, .int (nI (k36 + 1))), (5, .int y7), (0, .ref o_h), (1, .int x0), (2, .long x1)]) hx hb dX5_judge_88 hl (k := 4) rfl (nI_1 k36) (by decide) rfl (fun ls hl => ?_)
          refine lv_goto (tgt := 36) hx hb dX5_judge_91 (by decide) ?_
          exact ih _ hB9 hu _ _ _ hP hD hS (lv_sub hl [2, 3, 4, 0] rfl)
        · have hu := hu.trans (if_pos c_82)
          refine lv_iload hx hb dX5_judge_85 (lv_at hl 4 rfl) ?_
          subst hu
          exact hg_ri hx hb hr hlk rfl hP hD hS dX5_judge_87
    · have hu := hu.trans (if_pos c_23)
      refine lv_bipush (v := (-2)) hx hb dX5_judge_26 (by decide) ?_
      subst hu
      exact hg_ri hx hb hr hlk rfl hP hD hS dX5_judge_28

set_option maxHeartbeats 4000000 in
set_option maxRecDepth 100000 in
theorem c_X5_hear (l : Launch) (dC : Nat → ClassId) (dI : Nat → Nat → Nat) (cI cZ cM : ClassId) (sz : Nat) (o_h : Nat) (x0 : Int32) (x1 : Int32) (x2 : Int32) (o_players : Int32) (o_bars : Int32) (o_price : Nat) (o_breath : Nat) (o_kind : Nat) (o_looks : Nat) (o_noise : Nat) (o_repeat : Nat) (o_now : Nat) (o_readPlayer : Nat) (o_readBar : Nat) (o_readPlayers : Int32) (o_readBars : Int32) (o_text : Nat) (o_length : Int32) (o_at : Int32) (o_faultAt : Int32) (o_acts : Int32) (o_next : Int32) (o_row : Nat) (o_heard : Int32) (o_heardOf : Nat) (o_heardBars : Nat) (o_heardPlays : Nat) (o_hushWho : Int32) (o_hushSum : Int32) (o_seed : Int64) (o_isKept : Nat) (o_kept : Nat) (o_heardOf_v : Nat → Int32) (o_heardBars_v : Nat → Int32) (o_heardPlays_v : Nat → Int32) (np : Nat) (enp : o_players = nI np) (hnp : np ≤ 6) (nb : Nat) (enb : o_bars = nI nb) (hnb : nb ≤ 8) (nh : Nat) (enh : o_heard = nI nh) (hnh : nh ≤ 6) (u : Int32 × Int32 × (Nat → Int32) × (Nat → Int32) × (Nat → Int32)) (hu : u = f_X5_hear x0 x1 x2 o_players o_heard o_heardOf_v o_heardBars_v o_heardPlays_v) : Met l yX5_hear wsX5_hear { frames := 2, cells := 0, slots := 0, locals := 46 } (hgPc [.ref o_h, .int x0, .int x1, .int x2] (dC, dI) cI cZ cM [(o_h, .inr (5, [.int o_players, .int o_bars, .ref o_price, .ref o_breath, .ref o_kind, .ref o_looks, .ref o_noise, .ref o_repeat, .ref o_now, .ref o_readPlayer, .ref o_readBar, .int o_readPlayers, .int o_readBars, .ref o_text, .int o_length, .int o_at, .int o_faultAt, .int o_acts, .int o_next, .ref o_row, .int o_heard, .ref o_heardOf, .ref o_heardBars, .ref o_heardPlays, .int o_hushWho, .int o_hushSum, .long o_seed, .ref o_isKept, .ref o_kept])), (o_heardOf, .inl (cI, 6, .inl o_heardOf_v)), (o_heardBars, .inl (cI, 6, .inl o_heardBars_v)), (o_heardPlays, .inl (cI, 6, .inl o_heardPlays_v))] sz) (hgQi (dC, dI) u.1 [(o_h, .inr (5, [.int o_players, .int o_bars, .ref o_price, .ref o_breath, .ref o_kind, .ref o_looks, .ref o_noise, .ref o_repeat, .ref o_now, .ref o_readPlayer, .ref o_readBar, .int o_readPlayers, .int o_readBars, .ref o_text, .int o_length, .int o_at, .int o_faultAt, .int o_acts, .int o_next, .ref o_row, .int u.2.1, .ref o_heardOf, .ref o_heardBars, .ref o_heardPlays, .int o_hushWho, .int o_hushSum, .long o_seed, .ref o_isKept, .ref o_kept])), (o_heardOf, .inl (cI, 6, .inl u.2.2.1)), (o_heardBars, .inl (cI, 6, .inl u.2.2.2.1)), (o_heardPlays, .inl (cI, 6, .inl u.2.2.2.2))] (va_A [(o_h, .inr (5, [.int o_players, .int o_bars, .ref o_price, .ref o_breath, .ref o_kind, .ref o_looks, .ref o_noise, .ref o_repeat, .ref o_now, .ref o_readPlayer, .ref o_readBar, .int o_readPlayers, .int o_readBars, .ref o_text, .int o_length, .int o_at, .int o_faultAt, .int o_acts, .int o_next, .ref o_row, .int o_heard, .ref o_heardOf, .ref o_heardBars, .ref o_heardPlays, .int o_hushWho, .int o_hushSum, .long o_seed, .ref o_isKept, .ref o_kept])), (o_heardOf, .inl (cI, 6, .inl o_heardOf_v)), (o_heardBars, .inl (cI, 6, .inl o_heardBars_v)), (o_heardPlays, .inl (cI, 6, .inl o_heardPlays_v))] sz)) 0 0 (va_A [(o_h, .inr (5, [.int o_players, .int o_bars, .ref o_price, .ref o_breath, .ref o_kind, .ref o_looks, .ref o_noise, .ref o_repeat, .ref o_now, .ref o_readPlayer, .ref o_readBar, .int o_readPlayers, .int o_readBars, .ref o_text, .int o_length, .int o_at, .int o_faultAt, .int o_acts, .int o_next, .ref o_row, .int o_heard, .ref o_heardOf, .ref o_heardBars, .ref o_heardPlays, .int o_hushWho, .int o_hushSum, .long o_seed, .ref o_isKept, .ref o_kept])), (o_heardOf, .inl (cI, 6, .inl o_heardOf_v)), (o_heardBars, .inl (cI, 6, .inl o_heardBars_v)), (o_heardPlays, .inl (cI, 6, .inl o_heardPlays_v))] sz) := by
  refine hg_ofW (cc := cX5_hear) (maxL := 4) (ret := (some .int)) (own := RX5) (fun A => hgQi (dC, dI) u.1 [(o_h, .inr (5, [.int o_players, .int o_bars, .ref o_price, .ref o_breath, .ref o_kind, .ref o_looks, .ref o_noise, .ref o_repeat, .ref o_now, .ref o_readPlayer, .ref o_readBar, .int o_readPlayers, .int o_readBars, .ref o_text, .int o_length, .int o_at, .int o_faultAt, .int o_acts, .int o_next, .ref o_row, .int u.2.1, .ref o_heardOf, .ref o_heardBars, .ref o_heardPlays, .int o_hushWho, .int o_hushSum, .long o_seed, .ref o_isKept, .ref o_kept])), (o_heardOf, .inl (cI, 6, .inl u.2.2.1)), (o_heardBars, .inl (cI, 6, .inl u.2.2.2.1)), (o_heardPlays, .inl (cI, 6, .inl u.2.2.2.2))] A) rfl (by decide) rfl (Nat.le_of_ble_eq_true rfl) ?_
  intro p e s m below meth c ls A hsz hx hb hr hml hown hts hlk hnm hK hN hA hP hD hS hl
  subst hsz
  have w1 := hts (.constantLong RX5 142 (9)) (List.mem_of_getElem? (i := 1) rfl)
  have w2 := hts (.fieldLink RX5 199 "HatGoesRoundModel" "heard" "I") (List.mem_of_getElem? (i := 2) rfl)
  have hinX5 : ∀ w ∈ u_ws RX5 TX5 29, w ∈ wsX5_hear := fun _ h => List.mem_cons_of_mem _ (List.mem_append_right _ h)
  have w3 := hts (.fieldLink RX5 43 "HatGoesRoundModel" "heardOf" "[I") (List.mem_of_getElem? (i := 3) rfl)
  have w4 := hts (.fieldLink RX5 46 "HatGoesRoundModel" "heardBars" "[I") (List.mem_of_getElem? (i := 4) rfl)
  have w5 := hts (.fieldLink RX5 49 "HatGoesRoundModel" "heardPlays" "[I") (List.mem_of_getElem? (i := 5) rfl)
  have hl : lv_has ls 4 [(0, .ref o_h), (1, .int x0), (2, .int x1), (3, .int x2)] := hl
  unfold f_X5_hear at hu
  refine lv_aload_n hx hb dX5_hear_0 rfl (lv_at hl 0 rfl) ?_
  refine lv_iload_n hx hb dX5_hear_1 rfl (lv_at hl 1 rfl) ?_
  obtain ⟨r1, er1, hu⟩ := lxb_o hu
  refine hg_ci (va_runV (As := [.int x0]) (rest := []) ⟨hx, hb, hml, hown, hts⟩ (c_X5_isPlayer l dC dI cI cZ cM _ o_h x0 o_players o_bars o_price o_breath o_kind o_looks o_noise o_repeat o_now o_readPlayer o_readBar o_readPlayers o_readBars o_text o_length o_at o_faultAt o_acts o_next o_row o_heard o_heardOf o_heardBars o_heardPlays o_hushWho o_hushSum o_seed o_isKept o_kept np enp (by omega) nb enb (by omega) r1 er1) (cwV 1 hts gX5_hear_X5_isPlayer rfl rfl rfl (by decide +kernel) ⟨Nat.le_of_ble_eq_true rfl, Nat.le_of_ble_eq_true rfl⟩) (hgPreV (C := RX5) (T := TX5) (N := 29) (ci := 5) (q0 := 0) hP hD hK hN [0] rfl rfl rfl rfl) rfl rfl hl.1 rfl (lv_room (Nat.le_of_ble_eq_true rfl)) dX5_hear_2 ⟨Nat.zero_le _, Nat.zero_le _⟩) hP hD hS hA (wr := [(o_heardOf, .inl (cI, 6, .inl o_heardOf_v)), (o_heardBars, .inl (cI, 6, .inl o_heardBars_v)), (o_heardPlays, .inl (cI, 6, .inl o_heardPlays_v))]) (wf := [(o_h, .inr (5, [.int o_players, .int o_bars, .ref o_price, .ref o_breath, .ref o_kind, .ref o_looks, .ref o_noise, .ref o_repeat, .ref o_now, .ref o_readPlayer, .ref o_readBar, .int o_readPlayers, .int o_readBars, .ref o_text, .int o_length, .int o_at, .int o_faultAt, .int o_acts, .int o_next, .ref o_row, .int o_heard, .ref o_heardOf, .ref o_heardBars, .ref o_heardPlays, .int o_hushWho, .int o_hushSum, .long o_seed, .ref o_isKept, .ref o_kept])), (o_heardOf, .inl (cI, 6, .inl o_heardOf_v)), (o_heardBars, .inl (cI, 6, .inl o_heardBars_v)), (o_heardPlays, .inl (cI, 6, .inl o_heardPlays_v))]) [0] [1, 2, 3] [3, 0, 1, 2] rfl rfl rfl (by decide) rfl rfl (fun H locs hP hD hS => ?_)
  refine lv_if_ne (tgt := 10) hx hb dX5_hear_5 (by decide) (fun c_5 => ?_) (fun c_5 => ?_)
  · have hu := hu.trans (if_neg c_5)
    obtain ⟨jp, hjp, ejp⟩ := mP enp hnp er1 c_5
    refine lv_iload_n hx hb dX5_hear_10 rfl (lv_at hl 2 rfl) ?_
    refine lv_i2l (v := (Int32.toInt64 x1)) hx hb dX5_hear_11 rfl ?_
    refine lv_lconst (v := 0) hx hb dX5_hear_12 (by decide) ?_
    refine lv_ldc2 (v := 9) hx hb hown w1 dX5_hear_13 ?_
    obtain ⟨r2, er2, hu⟩ := lxb_o hu
    refine hg_ci (va_runS (As := [.long (Int32.toInt64 x1), .long 0, .long 9]) (rest := []) ⟨hx, hb, hml, hown, hts⟩ (c_X5_in l dC dI cI cZ cM _ (Int32.toInt64 x1) 0 9 r2 er2) (va_cwS 3 hts gX5_hear_X5_in rfl rfl rfl (by decide +kernel) ⟨Nat.le_of_ble_eq_true rfl, Nat.le_of_ble_eq_true rfl⟩) (hgPreS hP hD hK hN [] rfl rfl) rfl rfl hl.1 rfl (lv_room (Nat.le_of_ble_eq_true rfl)) dX5_hear_16 ⟨Nat.zero_le _, Nat.zero_le _⟩) hP hD hS hA (wr := [(o_h, .inr (5, [.int o_players, .int o_bars, .ref o_price, .ref o_breath, .ref o_kind, .ref o_looks, .ref o_noise, .ref o_repeat, .ref o_now, .ref o_readPlayer, .ref o_readBar, .int o_readPlayers, .int o_readBars, .ref o_text, .int o_length, .int o_at, .int o_faultAt, .int o_acts, .int o_next, .ref o_row, .int o_heard, .ref o_heardOf, .ref o_heardBars, .ref o_heardPlays, .int o_hushWho, .int o_hushSum, .long o_seed, .ref o_isKept, .ref o_kept])), (o_heardOf, .inl (cI, 6, .inl o_heardOf_v)), (o_heardBars, .inl (cI, 6, .inl o_heardBars_v)), (o_heardPlays, .inl (cI, 6, .inl o_heardPlays_v))]) (wf := [(o_h, .inr (5, [.int o_players, .int o_bars, .ref o_price, .ref o_breath, .ref o_kind, .ref o_looks, .ref o_noise, .ref o_repeat, .ref o_now, .ref o_readPlayer, .ref o_readBar, .int o_readPlayers, .int o_readBars, .ref o_text, .int o_length, .int o_at, .int o_faultAt, .int o_acts, .int o_next, .ref o_row, .int o_heard, .ref o_heardOf, .ref o_heardBars, .ref o_heardPlays, .int o_hushWho, .int o_hushSum, .long o_seed, .ref o_isKept, .ref o_kept])), (o_heardOf, .inl (cI, 6, .inl o_heardOf_v)), (o_heardBars, .inl (cI, 6, .inl o_heardBars_v)), (o_heardPlays, .inl (cI, 6, .inl o_heardPlays_v))]) [] [0, 1, 2, 3] [0, 1, 2, 3] rfl rfl rfl (by decide) rfl rfl (fun H locs hP hD hS => ?_)
    refine lv_if_eq (tgt := 32) hx hb dX5_hear_19 (by decide) (fun c_19 => ?_) (fun c_19 => ?_)
    · have hu := hu.trans (if_pos c_19)
      refine lv_bipush (v := (-2)) hx hb dX5_hear_32 (by decide) ?_
      subst hu
      exact hg_ri hx hb hr hlk rfl hP hD hS dX5_hear_34
    · have hu := hu.trans (if_neg c_19)
      refine lv_iload_n hx hb dX5_hear_22 rfl (lv_at hl 3 rfl) ?_
      refine lv_i2l (v := (Int32.toInt64 x2)) hx hb dX5_hear_23 rfl ?_
      refine lv_lconst (v := 0) hx hb dX5_hear_24 (by decide) ?_
      refine lv_lconst (v := 1) hx hb dX5_hear_25 (by decide) ?_
      obtain ⟨r3, er3, hu⟩ := lxb_o hu
      refine hg_ci (va_runS (As := [.long (Int32.toInt64 x2), .long 0, .long 1]) (rest := []) ⟨hx, hb, hml, hown, hts⟩ (c_X5_in l dC dI cI cZ cM _ (Int32.toInt64 x2) 0 1 r3 er3) (va_cwS 3 hts gX5_hear_X5_in rfl rfl rfl (by decide +kernel) ⟨Nat.le_of_ble_eq_true rfl, Nat.le_of_ble_eq_true rfl⟩) (hgPreS hP hD hK hN [] rfl rfl) rfl rfl hl.1 rfl (lv_room (Nat.le_of_ble_eq_true rfl)) dX5_hear_26 ⟨Nat.zero_le _, Nat.zero_le _⟩) hP hD hS hA (wr := [(o_h, .inr (5, [.int o_players, .int o_bars, .ref o_price, .ref o_breath, .ref o_kind, .ref o_looks, .ref o_noise, .ref o_repeat, .ref o_now, .ref o_readPlayer, .ref o_readBar, .int o_readPlayers, .int o_readBars, .ref o_text, .int o_length, .int o_at, .int o_faultAt, .int o_acts, .int o_next, .ref o_row, .int o_heard, .ref o_heardOf, .ref o_heardBars, .ref o_heardPlays, .int o_hushWho, .int o_hushSum, .long o_seed, .ref o_isKept, .ref o_kept])), (o_heardOf, .inl (cI, 6, .inl o_heardOf_v)), (o_heardBars, .inl (cI, 6, .inl o_heardBars_v)), (o_heardPlays, .inl (cI, 6, .inl o_heardPlays_v))]) (wf := [(o_h, .inr (5, [.int o_players, .int o_bars, .ref o_price, .ref o_breath, .ref o_kind, .ref o_looks, .ref o_noise, .ref o_repeat, .ref o_now, .ref o_readPlayer, .ref o_readBar, .int o_readPlayers, .int o_readBars, .ref o_text, .int o_length, .int o_at, .int o_faultAt, .int o_acts, .int o_next, .ref o_row, .int o_heard, .ref o_heardOf, .ref o_heardBars, .ref o_heardPlays, .int o_hushWho, .int o_hushSum, .long o_seed, .ref o_isKept, .ref o_kept])), (o_heardOf, .inl (cI, 6, .inl o_heardOf_v)), (o_heardBars, .inl (cI, 6, .inl o_heardBars_v)), (o_heardPlays, .inl (cI, 6, .inl o_heardPlays_v))]) [] [0, 1, 2, 3] [0, 1, 2, 3] rfl rfl rfl (by decide) rfl rfl (fun H locs hP hD hS => ?_)
      refine lv_if_ne (tgt := 35) hx hb dX5_hear_29 (by decide) (fun c_29 => ?_) (fun c_29 => ?_)
      · have hu := hu.trans (if_neg c_29)
        refine lv_aload_n hx hb dX5_hear_35 rfl (lv_at hl 0 rfl) ?_
        refine va_get (D := (dC, dI)) (ci := 5) (v := .int o_heard) (C := RX5) (T := TX5) (N := 29) hx hb hts hinX5 hown hK hP 0 rfl rfl 20 (by decide) w2 (fun _ h9 => h9) rfl dX5_hear_36 ?_
        refine lv_bipush (v := 6) hx hb dX5_hear_39 (by decide) ?_
        refine lv_icmp_ne (tgt := 47) hx hb dX5_hear_41 (by decide) (fun c_41 => ?_) (fun c_41 => ?_)
        · have hu := hu.trans (if_neg c_41)
          have hnh2 : nh < 6 := hg_ltN enh hnh c_41
          refine lv_aload_n hx hb dX5_hear_47 rfl (lv_at hl 0 rfl) ?_
          refine va_get (D := (dC, dI)) (ci := 5) (v := .ref o_heardOf) (C := RX5) (T := TX5) (N := 29) hx hb hts hinX5 hown hK hP 0 rfl rfl 21 (by decide) w3 (fun _ h9 => h9) rfl dX5_hear_48 ?_
          refine lv_aload_n hx hb dX5_hear_51 rfl (lv_at hl 0 rfl) ?_
          refine va_get (D := (dC, dI)) (ci := 5) (v := .int o_heard) (C := RX5) (T := TX5) (N := 29) hx hb hts hinX5 hown hK hP 0 rfl rfl 20 (by decide) w2 (fun _ h9 => h9) rfl dX5_hear_52 ?_
          refine lv_iload_n hx hb dX5_hear_55 rfl (lv_at hl 1 rfl) ?_
          refine va_iast hx hb hK hP hD hS 1 0 rfl rfl (n := 6) (f := o_heardOf_v) (hg_in (n := nh) (N := 6) enh (by omega) (by decide)) dX5_hear_56 (fun H locs hP hD hS => ?_)
          have hP : va_P (dC, dI) vwCl [(o_h, .inr (5, [.int o_players, .int o_bars, .ref o_price, .ref o_breath, .ref o_kind, .ref o_looks, .ref o_noise, .ref o_repeat, .ref o_now, .ref o_readPlayer, .ref o_readBar, .int o_readPlayers, .int o_readBars, .ref o_text, .int o_length, .int o_at, .int o_faultAt, .int o_acts, .int o_next, .ref o_row, .int o_heard, .ref o_heardOf, .ref o_heardBars, .ref o_heardPlays, .int o_hushWho, .int o_hushSum, .long o_seed, .ref o_isKept, .ref o_kept])), (o_heardOf, .inl (cI, 6, .inl (upd o_heardOf_v (Int32.toNatClampNeg o_heard) x0))), (o_heardBars, .inl (cI, 6, .inl o_heardBars_v)), (o_heardPlays, .inl (cI, 6, .inl o_heardPlays_v))] H := hP
          have hD : va_D A [(o_h, .inr (5, [.int o_players, .int o_bars, .ref o_price, .ref o_breath, .ref o_kind, .ref o_looks, .ref o_noise, .ref o_repeat, .ref o_now, .ref o_readPlayer, .ref o_readBar, .int o_readPlayers, .int o_readBars, .ref o_text, .int o_length, .int o_at, .int o_faultAt, .int o_acts, .int o_next, .ref o_row, .int o_heard, .ref o_heardOf, .ref o_heardBars, .ref o_heardPlays, .int o_hushWho, .int o_hushSum, .long o_seed, .ref o_isKept, .ref o_kept])), (o_heardOf, .inl (cI, 6, .inl (upd o_heardOf_v (Int32.toNatClampNeg o_heard) x0))), (o_heardBars, .inl (cI, 6, .inl o_heardBars_v)), (o_heardPlays, .inl (cI, 6, .inl o_heardPlays_v))] := hD
          refine lv_aload_n hx hb dX5_hear_57 rfl (lv_at hl 0 rfl) ?_
          refine va_get (D := (dC, dI)) (ci := 5) (v := .ref o_heardBars) (C := RX5) (T := TX5) (N := 29) hx hb hts hinX5 hown hK hP 0 rfl rfl 22 (by decide) w4 (fun _ h9 => h9) rfl dX5_hear_58 ?_
          refine lv_aload_n hx hb dX5_hear_61 rfl (lv_at hl 0 rfl) ?_
          refine va_get (D := (dC, dI)) (ci := 5) (v := .int o_heard) (C := RX5) (T := TX5) (N := 29) hx hb hts hinX5 hown hK hP 0 rfl rfl 20 (by decide) w2 (fun _ h9 => h9) rfl dX5_hear_62 ?_
          refine lv_iload_n hx hb dX5_hear_65 rfl (lv_at hl 2 rfl) ?_
          refine va_iast hx hb hK hP hD hS 2 0 rfl rfl (n := 6) (f := o_heardBars_v) (hg_in (n := nh) (N := 6) enh (by omega) (by decide)) dX5_hear_66 (fun H locs hP hD hS => ?_)
          have hP : va_P (dC, dI) vwCl [(o_h, .inr (5, [.int o_players, .int o_bars, .ref o_price, .ref o_breath, .ref o_kind, .ref o_looks, .ref o_noise, .ref o_repeat, .ref o_now, .ref o_readPlayer, .ref o_readBar, .int o_readPlayers, .int o_readBars, .ref o_text, .int o_length, .int o_at, .int o_faultAt, .int o_acts, .int o_next, .ref o_row, .int o_heard, .ref o_heardOf, .ref o_heardBars, .ref o_heardPlays, .int o_hushWho, .int o_hushSum, .long o_seed, .ref o_isKept, .ref o_kept])), (o_heardOf, .inl (cI, 6, .inl (upd o_heardOf_v (Int32.toNatClampNeg o_heard) x0))), (o_heardBars, .inl (cI, 6, .inl (upd o_heardBars_v (Int32.toNatClampNeg o_heard) x1))), (o_heardPlays, .inl (cI, 6, .inl o_heardPlays_v))] H := hP
          have hD : va_D A [(o_h, .inr (5, [.int o_players, .int o_bars, .ref o_price, .ref o_breath, .ref o_kind, .ref o_looks, .ref o_noise, .ref o_repeat, .ref o_now, .ref o_readPlayer, .ref o_readBar, .int o_readPlayers, .int o_readBars, .ref o_text, .int o_length, .int o_at, .int o_faultAt, .int o_acts, .int o_next, .ref o_row, .int o_heard, .ref o_heardOf, .ref o_heardBars, .ref o_heardPlays, .int o_hushWho, .int o_hushSum, .long o_seed, .ref o_isKept, .ref o_kept])), (o_heardOf, .inl (cI, 6, .inl (upd o_heardOf_v (Int32.toNatClampNeg o_heard) x0))), (o_heardBars, .inl (cI, 6, .inl (upd o_heardBars_v (Int32.toNatClampNeg o_heard) x1))), (o_heardPlays, .inl (cI, 6, .inl o_heardPlays_v))] := hD
          refine lv_aload_n hx hb dX5_hear_67 rfl (lv_at hl 0 rfl) ?_
          refine va_get (D := (dC, dI)) (ci := 5) (v := .ref o_heardPlays) (C := RX5) (T := TX5) (N := 29) hx hb hts hinX5 hown hK hP 0 rfl rfl 23 (by decide) w5 (fun _ h9 => h9) rfl dX5_hear_68 ?_
          refine lv_aload_n hx hb dX5_hear_71 rfl (lv_at hl 0 rfl) ?_
          refine va_get (D := (dC, dI)) (ci := 5) (v := .int o_heard) (C := RX5) (T := TX5) (N := 29) hx hb hts hinX5 hown hK hP 0 rfl rfl 20 (by decide) w2 (fun _ h9 => h9) rfl dX5_hear_72 ?_
          refine lv_iload_n hx hb dX5_hear_75 rfl (lv_at hl 3 rfl) ?_
          refine va_iast hx hb hK hP hD hS 3 0 rfl rfl (n := 6) (f := o_heardPlays_v) (hg_in (n := nh) (N := 6) enh (by omega) (by decide)) dX5_hear_76 (fun H locs hP hD hS => ?_)
          have hP : va_P (dC, dI) vwCl [(o_h, .inr (5, [.int o_players, .int o_bars, .ref o_price, .ref o_breath, .ref o_kind, .ref o_looks, .ref o_noise, .ref o_repeat, .ref o_now, .ref o_readPlayer, .ref o_readBar, .int o_readPlayers, .int o_readBars, .ref o_text, .int o_length, .int o_at, .int o_faultAt, .int o_acts, .int o_next, .ref o_row, .int o_heard, .ref o_heardOf, .ref o_heardBars, .ref o_heardPlays, .int o_hushWho, .int o_hushSum, .long o_seed, .ref o_isKept, .ref o_kept])), (o_heardOf, .inl (cI, 6, .inl (upd o_heardOf_v (Int32.toNatClampNeg o_heard) x0))), (o_heardBars, .inl (cI, 6, .inl (upd o_heardBars_v (Int32.toNatClampNeg o_heard) x1))), (o_heardPlays, .inl (cI, 6, .inl (upd o_heardPlays_v (Int32.toNatClampNeg o_heard) x2)))] H := hP
          have hD : va_D A [(o_h, .inr (5, [.int o_players, .int o_bars, .ref o_price, .ref o_breath, .ref o_kind, .ref o_looks, .ref o_noise, .ref o_repeat, .ref o_now, .ref o_readPlayer, .ref o_readBar, .int o_readPlayers, .int o_readBars, .ref o_text, .int o_length, .int o_at, .int o_faultAt, .int o_acts, .int o_next, .ref o_row, .int o_heard, .ref o_heardOf, .ref o_heardBars, .ref o_heardPlays, .int o_hushWho, .int o_hushSum, .long o_seed, .ref o_isKept, .ref o_kept])), (o_heardOf, .inl (cI, 6, .inl (upd o_heardOf_v (Int32.toNatClampNeg o_heard) x0))), (o_heardBars, .inl (cI, 6, .inl (upd o_heardBars_v (Int32.toNatClampNeg o_heard) x1))), (o_heardPlays, .inl (cI, 6, .inl (upd o_heardPlays_v (Int32.toNatClampNeg o_heard) x2)))] := hD
          refine lv_aload_n hx hb dX5_hear_77 rfl (lv_at hl 0 rfl) ?_
          refine lv_dup hx hb dX5_hear_78 rfl ?_
          refine va_get (D := (dC, dI)) (ci := 5) (v := .int o_heard) (C := RX5) (T := TX5) (N := 29) hx hb hts hinX5 hown hK hP 0 rfl rfl 20 (by decide) w2 (fun _ h9 => h9) rfl dX5_hear_79 ?_
          refine lv_iconst (v := 1) hx hb dX5_hear_82 (by decide) ?_
          refine lv_iadd hx hb dX5_hear_83 ?_
          refine va_put (D := (dC, dI)) (ci := 5) (v := .int (o_heard + 1)) (ty := .int) (C := RX5) (T := TX5) (N := 29) hx hb hts hinX5 tyX5 tyX5_ok nmX5 hown hK hP hD hS 0 rfl rfl 20 (by decide) w2 (fun _ h9 => h9) rfl (by decide +kernel) rfl rfl (Nat.le_of_ble_eq_true rfl) dX5_hear_84 (fun H locs hP hD hS => ?_)
          have hP : va_P (dC, dI) vwCl [(o_h, .inr (5, [.int o_players, .int o_bars, .ref o_price, .ref o_breath, .ref o_kind, .ref o_looks, .ref o_noise, .ref o_repeat, .ref o_now, .ref o_readPlayer, .ref o_readBar, .int o_readPlayers, .int o_readBars, .ref o_text, .int o_length, .int o_at, .int o_faultAt, .int o_acts, .int o_next, .ref o_row, .int (o_heard + 1), .ref o_heardOf, .ref o_heardBars, .ref o_heardPlays, .int o_hushWho, .int o_hushSum, .long o_seed, .ref o_isKept, .ref o_kept])), (o_heardOf, .inl (cI, 6, .inl (upd o_heardOf_v (Int32.toNatClampNeg o_heard) x0))), (o_heardBars, .inl (cI, 6, .inl (upd o_heardBars_v (Int32.toNatClampNeg o_heard) x1))), (o_heardPlays, .inl (cI, 6, .inl (upd o_heardPlays_v (Int32.toNatClampNeg o_heard) x2)))] H := hP
          have hD : va_D A [(o_h, .inr (5, [.int o_players, .int o_bars, .ref o_price, .ref o_breath, .ref o_kind, .ref o_looks, .ref o_noise, .ref o_repeat, .ref o_now, .ref o_readPlayer, .ref o_readBar, .int o_readPlayers, .int o_readBars, .ref o_text, .int o_length, .int o_at, .int o_faultAt, .int o_acts, .int o_next, .ref o_row, .int (o_heard + 1), .ref o_heardOf, .ref o_heardBars, .ref o_heardPlays, .int o_hushWho, .int o_hushSum, .long o_seed, .ref o_isKept, .ref o_kept])), (o_heardOf, .inl (cI, 6, .inl (upd o_heardOf_v (Int32.toNatClampNeg o_heard) x0))), (o_heardBars, .inl (cI, 6, .inl (upd o_heardBars_v (Int32.toNatClampNeg o_heard) x1))), (o_heardPlays, .inl (cI, 6, .inl (upd o_heardPlays_v (Int32.toNatClampNeg o_heard) x2)))] := hD
          refine lv_aload_n hx hb dX5_hear_87 rfl (lv_at hl 0 rfl) ?_
          refine va_get (D := (dC, dI)) (ci := 5) (v := .int (o_heard + 1)) (C := RX5) (T := TX5) (N := 29) hx hb hts hinX5 hown hK hP 0 rfl rfl 20 (by decide) w2 (fun _ h9 => h9) rfl dX5_hear_88 ?_
          subst hu
          exact hg_ri hx hb hr hlk rfl hP hD hS dX5_hear_91
        · have hu := hu.trans (if_pos c_41)
          refine lv_bipush (v := (-4)) hx hb dX5_hear_44 (by decide) ?_
          subst hu
          exact hg_ri hx hb hr hlk rfl hP hD hS dX5_hear_46
      · have hu := hu.trans (if_pos c_29)
        refine lv_bipush (v := (-2)) hx hb dX5_hear_32 (by decide) ?_
        subst hu
        exact hg_ri hx hb hr hlk rfl hP hD hS dX5_hear_34
  · have hu := hu.trans (if_pos c_5)
    refine lv_iconst (v := (-1)) hx hb dX5_hear_8 (by decide) ?_
    subst hu
    exact hg_ri hx hb hr hlk rfl hP hD hS dX5_hear_9

set_option maxHeartbeats 4000000 in
set_option maxRecDepth 100000 in
theorem c_X5_unhear (l : Launch) (dC : Nat → ClassId) (dI : Nat → Nat → Nat) (cI cZ cM : ClassId) (sz : Nat) (o_h : Nat) (o_players : Int32) (o_bars : Int32) (o_price : Nat) (o_breath : Nat) (o_kind : Nat) (o_looks : Nat) (o_noise : Nat) (o_repeat : Nat) (o_now : Nat) (o_readPlayer : Nat) (o_readBar : Nat) (o_readPlayers : Int32) (o_readBars : Int32) (o_text : Nat) (o_length : Int32) (o_at : Int32) (o_faultAt : Int32) (o_acts : Int32) (o_next : Int32) (o_row : Nat) (o_heard : Int32) (o_heardOf : Nat) (o_heardBars : Nat) (o_heardPlays : Nat) (o_hushWho : Int32) (o_hushSum : Int32) (o_seed : Int64) (o_isKept : Nat) (o_kept : Nat) (np : Nat) (enp : o_players = nI np) (hnp : np ≤ 6) (nb : Nat) (enb : o_bars = nI nb) (hnb : nb ≤ 8) (u : Int32 × Int32) (hu : u = f_X5_unhear o_heard) : Met l yX5_unhear wsX5_unhear { frames := 0, cells := 0, slots := 0, locals := 0 } (hgPc [.ref o_h] (dC, dI) cI cZ cM [(o_h, .inr (5, [.int o_players, .int o_bars, .ref o_price, .ref o_breath, .ref o_kind, .ref o_looks, .ref o_noise, .ref o_repeat, .ref o_now, .ref o_readPlayer, .ref o_readBar, .int o_readPlayers, .int o_readBars, .ref o_text, .int o_length, .int o_at, .int o_faultAt, .int o_acts, .int o_next, .ref o_row, .int o_heard, .ref o_heardOf, .ref o_heardBars, .ref o_heardPlays, .int o_hushWho, .int o_hushSum, .long o_seed, .ref o_isKept, .ref o_kept]))] sz) (hgQi (dC, dI) u.1 [(o_h, .inr (5, [.int o_players, .int o_bars, .ref o_price, .ref o_breath, .ref o_kind, .ref o_looks, .ref o_noise, .ref o_repeat, .ref o_now, .ref o_readPlayer, .ref o_readBar, .int o_readPlayers, .int o_readBars, .ref o_text, .int o_length, .int o_at, .int o_faultAt, .int o_acts, .int o_next, .ref o_row, .int u.2, .ref o_heardOf, .ref o_heardBars, .ref o_heardPlays, .int o_hushWho, .int o_hushSum, .long o_seed, .ref o_isKept, .ref o_kept]))] (va_A [(o_h, .inr (5, [.int o_players, .int o_bars, .ref o_price, .ref o_breath, .ref o_kind, .ref o_looks, .ref o_noise, .ref o_repeat, .ref o_now, .ref o_readPlayer, .ref o_readBar, .int o_readPlayers, .int o_readBars, .ref o_text, .int o_length, .int o_at, .int o_faultAt, .int o_acts, .int o_next, .ref o_row, .int o_heard, .ref o_heardOf, .ref o_heardBars, .ref o_heardPlays, .int o_hushWho, .int o_hushSum, .long o_seed, .ref o_isKept, .ref o_kept]))] sz)) 0 0 (va_A [(o_h, .inr (5, [.int o_players, .int o_bars, .ref o_price, .ref o_breath, .ref o_kind, .ref o_looks, .ref o_noise, .ref o_repeat, .ref o_now, .ref o_readPlayer, .ref o_readBar, .int o_readPlayers, .int o_readBars, .ref o_text, .int o_length, .int o_at, .int o_faultAt, .int o_acts, .int o_next, .ref o_row, .int o_heard, .ref o_heardOf, .ref o_heardBars, .ref o_heardPlays, .int o_hushWho, .int o_hushSum, .long o_seed, .ref o_isKept, .ref o_kept]))] sz) := by
  refine hg_ofW (cc := cX5_unhear) (maxL := 2) (ret := (some .int)) (own := RX5) (fun A => hgQi (dC, dI) u.1 [(o_h, .inr (5, [.int o_players, .int o_bars, .ref o_price, .ref o_breath, .ref o_kind, .ref o_looks, .ref o_noise, .ref o_repeat, .ref o_now, .ref o_readPlayer, .ref o_readBar, .int o_readPlayers, .int o_readBars, .ref o_text, .int o_length, .int o_at, .int o_faultAt, .int o_acts, .int o_next, .ref o_row, .int u.2, .ref o_heardOf, .ref o_heardBars, .ref o_heardPlays, .int o_hushWho, .int o_hushSum, .long o_seed, .ref o_isKept, .ref o_kept]))] A) rfl (by decide) rfl (Nat.le_of_ble_eq_true rfl) ?_
  intro p e s m below meth c ls A hsz hx hb hr hml hown hts hlk hnm hK hN hA hP hD hS hl
  subst hsz
  have w1 := hts (.fieldLink RX5 199 "HatGoesRoundModel" "heard" "I") (List.mem_of_getElem? (i := 1) rfl)
  have hinX5 : ∀ w ∈ u_ws RX5 TX5 29, w ∈ wsX5_unhear := fun _ h => List.mem_cons_of_mem _ (List.mem_append_right _ h)
  have hl : lv_has ls 2 [(0, .ref o_h)] := hl
  unfold f_X5_unhear at hu
  refine lv_aload_n hx hb dX5_unhear_0 rfl (lv_at hl 0 rfl) ?_
  refine va_get (D := (dC, dI)) (ci := 5) (v := .int o_heard) (C := RX5) (T := TX5) (N := 29) hx hb hts hinX5 hown hK hP 0 rfl rfl 20 (by decide) w1 (fun _ h9 => h9) rfl dX5_unhear_1 ?_
  refine lv_istore_n (lv' := [(1, .int o_heard), (0, .ref o_h)]) hx hb dX5_unhear_4 rfl hl (by decide) rfl (fun ls hl => ?_)
  refine lv_aload_n hx hb dX5_unhear_5 rfl (lv_at hl 1 rfl) ?_
  refine lv_iconst (v := 0) hx hb dX5_unhear_6 (by decide) ?_
  refine va_put (D := (dC, dI)) (ci := 5) (v := .int 0) (ty := .int) (C := RX5) (T := TX5) (N := 29) hx hb hts hinX5 tyX5 tyX5_ok nmX5 hown hK hP hD hS 0 rfl rfl 20 (by decide) w1 (fun _ h9 => h9) rfl (by decide +kernel) rfl rfl (Nat.le_of_ble_eq_true rfl) dX5_unhear_7 (fun H locs hP hD hS => ?_)
  have hP : va_P (dC, dI) vwCl [(o_h, .inr (5, [.int o_players, .int o_bars, .ref o_price, .ref o_breath, .ref o_kind, .ref o_looks, .ref o_noise, .ref o_repeat, .ref o_now, .ref o_readPlayer, .ref o_readBar, .int o_readPlayers, .int o_readBars, .ref o_text, .int o_length, .int o_at, .int o_faultAt, .int o_acts, .int o_next, .ref o_row, .int 0, .ref o_heardOf, .ref o_heardBars, .ref o_heardPlays, .int o_hushWho, .int o_hushSum, .long o_seed, .ref o_isKept, .ref o_kept]))] H := hP
  have hD : va_D A [(o_h, .inr (5, [.int o_players, .int o_bars, .ref o_price, .ref o_breath, .ref o_kind, .ref o_looks, .ref o_noise, .ref o_repeat, .ref o_now, .ref o_readPlayer, .ref o_readBar, .int o_readPlayers, .int o_readBars, .ref o_text, .int o_length, .int o_at, .int o_faultAt, .int o_acts, .int o_next, .ref o_row, .int 0, .ref o_heardOf, .ref o_heardBars, .ref o_heardPlays, .int o_hushWho, .int o_hushSum, .long o_seed, .ref o_isKept, .ref o_kept]))] := hD
  refine lv_iload_n hx hb dX5_unhear_10 rfl (lv_at hl 0 rfl) ?_
  subst hu
  exact hg_ri hx hb hr hlk rfl hP hD hS dX5_unhear_11

set_option maxHeartbeats 4000000 in
set_option maxRecDepth 100000 in
theorem c_X5_mayBePaid (l : Launch) (dC : Nat → ClassId) (dI : Nat → Nat → Nat) (cI cZ cM : ClassId) (sz : Nat) (o_h : Nat) (x0 : Int32) (o_players : Int32) (o_bars : Int32) (o_price : Nat) (o_breath : Nat) (o_kind : Nat) (o_looks : Nat) (o_noise : Nat) (o_repeat : Nat) (o_now : Nat) (o_readPlayer : Nat) (o_readBar : Nat) (o_readPlayers : Int32) (o_readBars : Int32) (o_text : Nat) (o_length : Int32) (o_at : Int32) (o_faultAt : Int32) (o_acts : Int32) (o_next : Int32) (o_row : Nat) (o_heard : Int32) (o_heardOf : Nat) (o_heardBars : Nat) (o_heardPlays : Nat) (o_hushWho : Int32) (o_hushSum : Int32) (o_seed : Int64) (o_isKept : Nat) (o_kept : Nat) (o_now_v : Nat → Int32) (o_heardBars_v : Nat → Int32) (o_noise_v : Nat → Int32) (o_kind_v : Nat → Int32) (o_looks_v : Nat → Int32) (o_repeat_v : Nat → Int32) (o_heardOf_v : Nat → Int32) (o_heardPlays_v : Nat → Int32) (np : Nat) (enp : o_players = nI np) (hnp : np ≤ 6) (nb : Nat) (enb : o_bars = nI nb) (hnb : nb ≤ 8) (nh : Nat) (enh : o_heard = nI nh) (hnh : nh ≤ 6) (hB : mB o_now_v) (u : Int32 × (Nat → Int32)) (hu : u = f_X5_mayBePaid x0 o_players o_bars o_heard o_now_v o_heardBars_v o_noise_v o_kind_v o_looks_v o_repeat_v o_heardOf_v o_heardPlays_v) : Met l yX5_mayBePaid wsX5_mayBePaid { frames := 6, cells := 0, slots := 0, locals := 140 } (hgPc [.ref o_h, .int x0] (dC, dI) cI cZ cM [(o_h, .inr (5, [.int o_players, .int o_bars, .ref o_price, .ref o_breath, .ref o_kind, .ref o_looks, .ref o_noise, .ref o_repeat, .ref o_now, .ref o_readPlayer, .ref o_readBar, .int o_readPlayers, .int o_readBars, .ref o_text, .int o_length, .int o_at, .int o_faultAt, .int o_acts, .int o_next, .ref o_row, .int o_heard, .ref o_heardOf, .ref o_heardBars, .ref o_heardPlays, .int o_hushWho, .int o_hushSum, .long o_seed, .ref o_isKept, .ref o_kept])), (o_now, .inl (cI, 32, .inl o_now_v)), (o_heardBars, .inl (cI, 6, .inl o_heardBars_v)), (o_noise, .inl (cI, 8, .inl o_noise_v)), (o_kind, .inl (cI, 6, .inl o_kind_v)), (o_looks, .inl (cI, 6, .inl o_looks_v)), (o_repeat, .inl (cI, 8, .inl o_repeat_v)), (o_heardOf, .inl (cI, 6, .inl o_heardOf_v)), (o_heardPlays, .inl (cI, 6, .inl o_heardPlays_v))] sz) (hgQiE (dC, dI) u.1 [(o_h, .inr (5, [.int o_players, .int o_bars, .ref o_price, .ref o_breath, .ref o_kind, .ref o_looks, .ref o_noise, .ref o_repeat, .ref o_now, .ref o_readPlayer, .ref o_readBar, .int o_readPlayers, .int o_readBars, .ref o_text, .int o_length, .int o_at, .int o_faultAt, .int o_acts, .int o_next, .ref o_row, .int o_heard, .ref o_heardOf, .ref o_heardBars, .ref o_heardPlays, .int o_hushWho, .int o_hushSum, .long o_seed, .ref o_isKept, .ref o_kept])), (o_now, .inl (cI, 32, .inl u.2)), (o_heardBars, .inl (cI, 6, .inl o_heardBars_v)), (o_noise, .inl (cI, 8, .inl o_noise_v)), (o_kind, .inl (cI, 6, .inl o_kind_v)), (o_looks, .inl (cI, 6, .inl o_looks_v)), (o_repeat, .inl (cI, 8, .inl o_repeat_v)), (o_heardOf, .inl (cI, 6, .inl o_heardOf_v)), (o_heardPlays, .inl (cI, 6, .inl o_heardPlays_v))] (mB u.2) (va_A [(o_h, .inr (5, [.int o_players, .int o_bars, .ref o_price, .ref o_breath, .ref o_kind, .ref o_looks, .ref o_noise, .ref o_repeat, .ref o_now, .ref o_readPlayer, .ref o_readBar, .int o_readPlayers, .int o_readBars, .ref o_text, .int o_length, .int o_at, .int o_faultAt, .int o_acts, .int o_next, .ref o_row, .int o_heard, .ref o_heardOf, .ref o_heardBars, .ref o_heardPlays, .int o_hushWho, .int o_hushSum, .long o_seed, .ref o_isKept, .ref o_kept])), (o_now, .inl (cI, 32, .inl o_now_v)), (o_heardBars, .inl (cI, 6, .inl o_heardBars_v)), (o_noise, .inl (cI, 8, .inl o_noise_v)), (o_kind, .inl (cI, 6, .inl o_kind_v)), (o_looks, .inl (cI, 6, .inl o_looks_v)), (o_repeat, .inl (cI, 8, .inl o_repeat_v)), (o_heardOf, .inl (cI, 6, .inl o_heardOf_v)), (o_heardPlays, .inl (cI, 6, .inl o_heardPlays_v))] sz)) 0 0 (va_A [(o_h, .inr (5, [.int o_players, .int o_bars, .ref o_price, .ref o_breath, .ref o_kind, .ref o_looks, .ref o_noise, .ref o_repeat, .ref o_now, .ref o_readPlayer, .ref o_readBar, .int o_readPlayers, .int o_readBars, .ref o_text, .int o_length, .int o_at, .int o_faultAt, .int o_acts, .int o_next, .ref o_row, .int o_heard, .ref o_heardOf, .ref o_heardBars, .ref o_heardPlays, .int o_hushWho, .int o_hushSum, .long o_seed, .ref o_isKept, .ref o_kept])), (o_now, .inl (cI, 32, .inl o_now_v)), (o_heardBars, .inl (cI, 6, .inl o_heardBars_v)), (o_noise, .inl (cI, 8, .inl o_noise_v)), (o_kind, .inl (cI, 6, .inl o_kind_v)), (o_looks, .inl (cI, 6, .inl o_looks_v)), (o_repeat, .inl (cI, 8, .inl o_repeat_v)), (o_heardOf, .inl (cI, 6, .inl o_heardOf_v)), (o_heardPlays, .inl (cI, 6, .inl o_heardPlays_v))] sz) := by
  refine hg_ofW (cc := cX5_mayBePaid) (maxL := 4) (ret := (some .boolean)) (own := RX5) (fun A => hgQiE (dC, dI) u.1 [(o_h, .inr (5, [.int o_players, .int o_bars, .ref o_price, .ref o_breath, .ref o_kind, .ref o_looks, .ref o_noise, .ref o_repeat, .ref o_now, .ref o_readPlayer, .ref o_readBar, .int o_readPlayers, .int o_readBars, .ref o_text, .int o_length, .int o_at, .int o_faultAt, .int o_acts, .int o_next, .ref o_row, .int o_heard, .ref o_heardOf, .ref o_heardBars, .ref o_heardPlays, .int o_hushWho, .int o_hushSum, .long o_seed, .ref o_isKept, .ref o_kept])), (o_now, .inl (cI, 32, .inl u.2)), (o_heardBars, .inl (cI, 6, .inl o_heardBars_v)), (o_noise, .inl (cI, 8, .inl o_noise_v)), (o_kind, .inl (cI, 6, .inl o_kind_v)), (o_looks, .inl (cI, 6, .inl o_looks_v)), (o_repeat, .inl (cI, 8, .inl o_repeat_v)), (o_heardOf, .inl (cI, 6, .inl o_heardOf_v)), (o_heardPlays, .inl (cI, 6, .inl o_heardPlays_v))] (mB u.2) A) rfl (by decide) rfl (Nat.le_of_ble_eq_true rfl) ?_
  intro p e s m below meth c ls A hsz hx hb hr hml hown hts hlk hnm hK hN hA hP hD hS hl
  subst hsz
  have w1 := hts (.fieldLink RX5 199 "HatGoesRoundModel" "heard" "I") (List.mem_of_getElem? (i := 1) rfl)
  have hinX5 : ∀ w ∈ u_ws RX5 TX5 29, w ∈ wsX5_mayBePaid := fun _ h => List.mem_cons_of_mem _ (List.mem_append_right _ h)
  have w2 := hts (.fieldLink RX5 46 "HatGoesRoundModel" "heardBars" "[I") (List.mem_of_getElem? (i := 2) rfl)
  have w3 := hts (.fieldLink RX5 43 "HatGoesRoundModel" "heardOf" "[I") (List.mem_of_getElem? (i := 3) rfl)
  have w4 := hts (.fieldLink RX5 49 "HatGoesRoundModel" "heardPlays" "[I") (List.mem_of_getElem? (i := 4) rfl)
  have hl : lv_has ls 4 [(0, .ref o_h), (1, .int x0)] := hl
  unfold f_X5_mayBePaid at hu
  refine lv_iconst (v := 1) hx hb dX5_mayBePaid_0 (by decide) ?_
  refine lv_istore_n (lv' := [(2, .int 1), (0, .ref o_h), (1, .int x0)]) hx hb dX5_mayBePaid_1 rfl hl (by decide) rfl (fun ls hl => ?_)
  refine lv_iconst (v := 0) hx hb dX5_mayBePaid_2 (by decide) ?_
  refine lv_istore_n (lv' := [(3, .int 0), (2, .int 1), (0, .ref o_h), (1, .int x0)]) hx hb dX5_mayBePaid_3 rfl hl (by decide) rfl (fun ls hl => ?_)
  obtain ⟨r9, er9, hu⟩ := lxb_o hu
  refine hg_loopFJ (T := Int32 × (Nat → Int32)) (N := (itn 0 o_heard)) (fun v4 => (v4.1 = 0 ∨ v4.1 = 1) ∧ (mB v4.2)) (fun v4 => [(o_h, .inr (5, [.int o_players, .int o_bars, .ref o_price, .ref o_breath, .ref o_kind, .ref o_looks, .ref o_noise, .ref o_repeat, .ref o_now, .ref o_readPlayer, .ref o_readBar, .int o_readPlayers, .int o_readBars, .ref o_text, .int o_length, .int o_at, .int o_faultAt, .int o_acts, .int o_next, .ref o_row, .int o_heard, .ref o_heardOf, .ref o_heardBars, .ref o_heardPlays, .int o_hushWho, .int o_hushSum, .long o_seed, .ref o_isKept, .ref o_kept])), (o_now, .inl (cI, 32, .inl v4.2)), (o_heardBars, .inl (cI, 6, .inl o_heardBars_v)), (o_noise, .inl (cI, 8, .inl o_noise_v)), (o_kind, .inl (cI, 6, .inl o_kind_v)), (o_looks, .inl (cI, 6, .inl o_looks_v)), (o_repeat, .inl (cI, 8, .inl o_repeat_v)), (o_heardOf, .inl (cI, 6, .inl o_heardOf_v)), (o_heardPlays, .inl (cI, 6, .inl o_heardPlays_v))]) (fun k4 v4 => [(0, .ref o_h), (1, .int x0), (2, .int v4.1), (3, .int (nI k4))]) (fun k4 => l_X5_mayBePaid_4 x0 o_players o_bars o_heardBars_v o_noise_v o_kind_v o_looks_v o_repeat_v o_heardOf_v o_heardPlays_v (1, o_now_v) k4) ⟨(Or.inr rfl), hB⟩ ?_ ?_ hP hD hS (lv_sub hl [2, 3, 1, 0] rfl)
  · intro v4 hJ4 hv H locs ls hP hD hS hl
    obtain rfl : r9 = v4 := er9.trans hv.symm
    have hP : va_P (dC, dI) vwCl [(o_h, .inr (5, [.int o_players, .int o_bars, .ref o_price, .ref o_breath, .ref o_kind, .ref o_looks, .ref o_noise, .ref o_repeat, .ref o_now, .ref o_readPlayer, .ref o_readBar, .int o_readPlayers, .int o_readBars, .ref o_text, .int o_length, .int o_at, .int o_faultAt, .int o_acts, .int o_next, .ref o_row, .int o_heard, .ref o_heardOf, .ref o_heardBars, .ref o_heardPlays, .int o_hushWho, .int o_hushSum, .long o_seed, .ref o_isKept, .ref o_kept])), (o_now, .inl (cI, 32, .inl r9.2)), (o_heardBars, .inl (cI, 6, .inl o_heardBars_v)), (o_noise, .inl (cI, 8, .inl o_noise_v)), (o_kind, .inl (cI, 6, .inl o_kind_v)), (o_looks, .inl (cI, 6, .inl o_looks_v)), (o_repeat, .inl (cI, 8, .inl o_repeat_v)), (o_heardOf, .inl (cI, 6, .inl o_heardOf_v)), (o_heardPlays, .inl (cI, 6, .inl o_heardPlays_v))] H := hP
    have hD : va_D A [(o_h, .inr (5, [.int o_players, .int o_bars, .ref o_price, .ref o_breath, .ref o_kind, .ref o_looks, .ref o_noise, .ref o_repeat, .ref o_now, .ref o_readPlayer, .ref o_readBar, .int o_readPlayers, .int o_readBars, .ref o_text, .int o_length, .int o_at, .int o_faultAt, .int o_acts, .int o_next, .ref o_row, .int o_heard, .ref o_heardOf, .ref o_heardBars, .ref o_heardPlays, .int o_hushWho, .int o_hushSum, .long o_seed, .ref o_isKept, .ref o_kept])), (o_now, .inl (cI, 32, .inl r9.2)), (o_heardBars, .inl (cI, 6, .inl o_heardBars_v)), (o_noise, .inl (cI, 8, .inl o_noise_v)), (o_kind, .inl (cI, 6, .inl o_kind_v)), (o_looks, .inl (cI, 6, .inl o_looks_v)), (o_repeat, .inl (cI, 8, .inl o_repeat_v)), (o_heardOf, .inl (cI, 6, .inl o_heardOf_v)), (o_heardPlays, .inl (cI, 6, .inl o_heardPlays_v))] := hD
    have hl : lv_has ls 4 [(0, .ref o_h), (1, .int x0), (2, .int r9.1), (3, .int (nI (itn 0 o_heard)))] := hl
    refine lv_iload_n hx hb dX5_mayBePaid_4 rfl (lv_at hl 3 rfl) ?_
    refine lv_aload_n hx hb dX5_mayBePaid_5 rfl (lv_at hl 0 rfl) ?_
    refine va_get (D := (dC, dI)) (ci := 5) (v := .int o_heard) (C := RX5) (T := TX5) (N := 29) hx hb hts hinX5 hown hK hP 0 rfl rfl 20 (by decide) w1 (fun _ h9 => h9) rfl dX5_mayBePaid_6 ?_
    refine lv_icmp_ge (tgt := 91) hx hb dX5_mayBePaid_9 (by decide) (fun c_9 => ?_) (fun c_9 => absurd hg_lo0 c_9)
    refine lv_iload_n hx hb dX5_mayBePaid_91 rfl (lv_at hl 2 rfl) ?_
    subst hu
    exact hg_rzE hx hb hr hlk (hg_nz hJ4.1) rfl hJ4.2 hP hD hS dX5_mayBePaid_92
  · intro k4 hk v4 hJ4 hv w hw ih H locs ls hP hD hS hl
    have hw : w = b_X5_mayBePaid_4 x0 o_players o_bars o_heardBars_v o_noise_v o_kind_v o_looks_v o_repeat_v o_heardOf_v o_heardPlays_v k4 v4 := by rw [hw, hv]; rfl
    unfold b_X5_mayBePaid_4 at hw
    have hkb : k4 + 0 < nh := hg_itn0 enh (by omega) hk
    have hP : va_P (dC, dI) vwCl [(o_h, .inr (5, [.int o_players, .int o_bars, .ref o_price, .ref o_breath, .ref o_kind, .ref o_looks, .ref o_noise, .ref o_repeat, .ref o_now, .ref o_readPlayer, .ref o_readBar, .int o_readPlayers, .int o_readBars, .ref o_text, .int o_length, .int o_at, .int o_faultAt, .int o_acts, .int o_next, .ref o_row, .int o_heard, .ref o_heardOf, .ref o_heardBars, .ref o_heardPlays, .int o_hushWho, .int o_hushSum, .long o_seed, .ref o_isKept, .ref o_kept])), (o_now, .inl (cI, 32, .inl v4.2)), (o_heardBars, .inl (cI, 6, .inl o_heardBars_v)), (o_noise, .inl (cI, 8, .inl o_noise_v)), (o_kind, .inl (cI, 6, .inl o_kind_v)), (o_looks, .inl (cI, 6, .inl o_looks_v)), (o_repeat, .inl (cI, 8, .inl o_repeat_v)), (o_heardOf, .inl (cI, 6, .inl o_heardOf_v)), (o_heardPlays, .inl (cI, 6, .inl o_heardPlays_v))] H := hP
    have hD : va_D A [(o_h, .inr (5, [.int o_players, .int o_bars, .ref o_price, .ref o_breath, .ref o_kind, .ref o_looks, .ref o_noise, .ref o_repeat, .ref o_now, .ref o_readPlayer, .ref o_readBar, .int o_readPlayers, .int o_readBars, .ref o_text, .int o_length, .int o_at, .int o_faultAt, .int o_acts, .int o_next, .ref o_row, .int o_heard, .ref o_heardOf, .ref o_heardBars, .ref o_heardPlays, .int o_hushWho, .int o_hushSum, .long o_seed, .ref o_isKept, .ref o_kept])), (o_now, .inl (cI, 32, .inl v4.2)), (o_heardBars, .inl (cI, 6, .inl o_heardBars_v)), (o_noise, .inl (cI, 8, .inl o_noise_v)), (o_kind, .inl (cI, 6, .inl o_kind_v)), (o_looks, .inl (cI, 6, .inl o_looks_v)), (o_repeat, .inl (cI, 8, .inl o_repeat_v)), (o_heardOf, .inl (cI, 6, .inl o_heardOf_v)), (o_heardPlays, .inl (cI, 6, .inl o_heardPlays_v))] := hD
    have hl : lv_has ls 4 [(0, .ref o_h), (1, .int x0), (2, .int v4.1), (3, .int (nI k4))] := hl
    refine lv_iload_n hx hb dX5_mayBePaid_4 rfl (lv_at hl 3 rfl) ?_
    refine lv_aload_n hx hb dX5_mayBePaid_5 rfl (lv_at hl 0 rfl) ?_
    refine va_get (D := (dC, dI)) (ci := 5) (v := .int o_heard) (C := RX5) (T := TX5) (N := 29) hx hb hts hinX5 hown hK hP 0 rfl rfl 20 (by decide) w1 (fun _ h9 => h9) rfl dX5_mayBePaid_6 ?_
    refine lv_icmp_ge (tgt := 91) hx hb dX5_mayBePaid_9 (by decide) (fun c_9 => absurd c_9 (hg_lo1 hk)) (fun c_9 => ?_)
    refine lv_aload_n hx hb dX5_mayBePaid_12 rfl (lv_at hl 0 rfl) ?_
    obtain ⟨r1, er1, hw⟩ := lxb_o hw
    refine hg_cvE (va_runV (As := []) (rest := []) ⟨hx, hb, hml, hown, hts⟩ (c_X5_layTrial l dC dI cI cZ cM _ o_h o_players o_bars o_price o_breath o_kind o_looks o_noise o_repeat o_now o_readPlayer o_readBar o_readPlayers o_readBars o_text o_length o_at o_faultAt o_acts o_next o_row o_heard o_heardOf o_heardBars o_heardPlays o_hushWho o_hushSum o_seed o_isKept o_kept v4.2 np enp (by omega) nb enb (by omega) hJ4.2 r1 er1) (cwV 0 hts gX5_mayBePaid_X5_layTrial rfl rfl rfl (by decide +kernel) ⟨Nat.le_of_ble_eq_true rfl, Nat.le_of_ble_eq_true rfl⟩) (hgPreV (C := RX5) (T := TX5) (N := 29) (ci := 5) (q0 := 0) hP hD hK hN [0, 1] rfl rfl rfl rfl) rfl rfl hl.1 rfl (lv_room (Nat.le_of_ble_eq_true rfl)) dX5_mayBePaid_13 ⟨Nat.zero_le _, Nat.zero_le _⟩) hP hD hS hA (wr := [(o_heardBars, .inl (cI, 6, .inl o_heardBars_v)), (o_noise, .inl (cI, 8, .inl o_noise_v)), (o_kind, .inl (cI, 6, .inl o_kind_v)), (o_looks, .inl (cI, 6, .inl o_looks_v)), (o_repeat, .inl (cI, 8, .inl o_repeat_v)), (o_heardOf, .inl (cI, 6, .inl o_heardOf_v)), (o_heardPlays, .inl (cI, 6, .inl o_heardPlays_v))]) (wf := [(o_h, .inr (5, [.int o_players, .int o_bars, .ref o_price, .ref o_breath, .ref o_kind, .ref o_looks, .ref o_noise, .ref o_repeat, .ref o_now, .ref o_readPlayer, .ref o_readBar, .int o_readPlayers, .int o_readBars, .ref o_text, .int o_length, .int o_at, .int o_faultAt, .int o_acts, .int o_next, .ref o_row, .int o_heard, .ref o_heardOf, .ref o_heardBars, .ref o_heardPlays, .int o_hushWho, .int o_hushSum, .long o_seed, .ref o_isKept, .ref o_kept])), (o_now, .inl (cI, 32, .inl r1)), (o_heardBars, .inl (cI, 6, .inl o_heardBars_v)), (o_noise, .inl (cI, 8, .inl o_noise_v)), (o_kind, .inl (cI, 6, .inl o_kind_v)), (o_looks, .inl (cI, 6, .inl o_looks_v)), (o_repeat, .inl (cI, 8, .inl o_repeat_v)), (o_heardOf, .inl (cI, 6, .inl o_heardOf_v)), (o_heardPlays, .inl (cI, 6, .inl o_heardPlays_v))]) [0, 1] [2, 3, 4, 5, 6, 7, 8] [7, 8, 0, 1, 2, 3, 4, 5, 6] rfl rfl rfl (by decide) rfl rfl (fun hB2 H locs hP hD hS => ?_)
    refine lv_aload_n hx hb dX5_mayBePaid_16 rfl (lv_at hl 0 rfl) ?_
    refine lv_iload_n hx hb dX5_mayBePaid_17 rfl (lv_at hl 1 rfl) ?_
    refine lv_iconst (v := 1) hx hb dX5_mayBePaid_18 (by decide) ?_
    obtain ⟨r3, er3, hw⟩ := lxb_o hw
    refine hg_cvE (va_runV (As := [.int x0, .int 1]) (rest := []) ⟨hx, hb, hml, hown, hts⟩ (c_X5_makeSome l dC dI cI cZ cM _ o_h x0 1 o_players o_bars o_price o_breath o_kind o_looks o_noise o_repeat o_now o_readPlayer o_readBar o_readPlayers o_readBars o_text o_length o_at o_faultAt o_acts o_next o_row o_heard o_heardOf o_heardBars o_heardPlays o_hushWho o_hushSum o_seed o_isKept o_kept r1 np enp (by omega) nb enb (by omega) hB2 r3 er3) (cwV 2 hts gX5_mayBePaid_X5_makeSome rfl rfl rfl (by decide +kernel) ⟨Nat.le_of_ble_eq_true rfl, Nat.le_of_ble_eq_true rfl⟩) (hgPreV (C := RX5) (T := TX5) (N := 29) (ci := 5) (q0 := 0) hP hD hK hN [0, 1] rfl rfl rfl rfl) rfl rfl hl.1 rfl (lv_room (Nat.le_of_ble_eq_true rfl)) dX5_mayBePaid_19 ⟨Nat.zero_le _, Nat.zero_le _⟩) hP hD hS hA (wr := [(o_heardBars, .inl (cI, 6, .inl o_heardBars_v)), (o_noise, .inl (cI, 8, .inl o_noise_v)), (o_kind, .inl (cI, 6, .inl o_kind_v)), (o_looks, .inl (cI, 6, .inl o_looks_v)), (o_repeat, .inl (cI, 8, .inl o_repeat_v)), (o_heardOf, .inl (cI, 6, .inl o_heardOf_v)), (o_heardPlays, .inl (cI, 6, .inl o_heardPlays_v))]) (wf := [(o_h, .inr (5, [.int o_players, .int o_bars, .ref o_price, .ref o_breath, .ref o_kind, .ref o_looks, .ref o_noise, .ref o_repeat, .ref o_now, .ref o_readPlayer, .ref o_readBar, .int o_readPlayers, .int o_readBars, .ref o_text, .int o_length, .int o_at, .int o_faultAt, .int o_acts, .int o_next, .ref o_row, .int o_heard, .ref o_heardOf, .ref o_heardBars, .ref o_heardPlays, .int o_hushWho, .int o_hushSum, .long o_seed, .ref o_isKept, .ref o_kept])), (o_now, .inl (cI, 32, .inl r3)), (o_heardBars, .inl (cI, 6, .inl o_heardBars_v)), (o_noise, .inl (cI, 8, .inl o_noise_v)), (o_kind, .inl (cI, 6, .inl o_kind_v)), (o_looks, .inl (cI, 6, .inl o_looks_v)), (o_repeat, .inl (cI, 8, .inl o_repeat_v)), (o_heardOf, .inl (cI, 6, .inl o_heardOf_v)), (o_heardPlays, .inl (cI, 6, .inl o_heardPlays_v))]) [0, 1] [2, 3, 4, 5, 6, 7, 8] [7, 8, 0, 1, 2, 3, 4, 5, 6] rfl rfl rfl (by decide) rfl rfl (fun hB4 H locs hP hD hS => ?_)
    refine lv_aload_n hx hb dX5_mayBePaid_22 rfl (lv_at hl 0 rfl) ?_
    refine lv_aload_n hx hb dX5_mayBePaid_23 rfl (lv_at hl 0 rfl) ?_
    refine va_get (D := (dC, dI)) (ci := 5) (v := .ref o_heardBars) (C := RX5) (T := TX5) (N := 29) hx hb hts hinX5 hown hK hP 0 rfl rfl 22 (by decide) w2 (fun _ h9 => h9) rfl dX5_mayBePaid_24 ?_
    refine lv_iload_n hx hb dX5_mayBePaid_27 rfl (lv_at hl 3 rfl) ?_
    refine va_iald hx hb hK hP 2 0 rfl rfl (n := 6) (f := o_heardBars_v) (hg_in (n := k4) (N := 6) rfl (by omega) (by decide)) dX5_mayBePaid_28 ?_
    obtain ⟨r5, er5, hw⟩ := lxb_o hw
    refine hg_ciE (va_runV (As := [.int (o_heardBars_v (Int32.toNatClampNeg (nI k4)))]) (rest := []) ⟨hx, hb, hml, hown, hts⟩ (c_X5_goOn l dC dI cI cZ cM _ o_h (o_heardBars_v (Int32.toNatClampNeg (nI k4))) o_players o_bars o_price o_breath o_kind o_looks o_noise o_repeat o_now o_readPlayer o_readBar o_readPlayers o_readBars o_text o_length o_at o_faultAt o_acts o_next o_row o_heard o_heardOf o_heardBars o_heardPlays o_hushWho o_hushSum o_seed o_isKept o_kept r3 o_noise_v o_kind_v o_looks_v o_repeat_v np enp (by omega) nb enb (by omega) hB4 r5 er5) (cwV 1 hts gX5_mayBePaid_X5_goOn rfl rfl rfl (by decide +kernel) ⟨Nat.le_of_ble_eq_true rfl, Nat.le_of_ble_eq_true rfl⟩) (hgPreV (C := RX5) (T := TX5) (N := 29) (ci := 5) (q0 := 0) hP hD hK hN [0, 1, 3, 4, 5, 6] rfl rfl rfl rfl) rfl rfl hl.1 rfl (lv_room (Nat.le_of_ble_eq_true rfl)) dX5_mayBePaid_29 ⟨Nat.zero_le _, Nat.zero_le _⟩) hP hD hS hA (wr := [(o_heardBars, .inl (cI, 6, .inl o_heardBars_v)), (o_heardOf, .inl (cI, 6, .inl o_heardOf_v)), (o_heardPlays, .inl (cI, 6, .inl o_heardPlays_v))]) (wf := [(o_h, .inr (5, [.int o_players, .int o_bars, .ref o_price, .ref o_breath, .ref o_kind, .ref o_looks, .ref o_noise, .ref o_repeat, .ref o_now, .ref o_readPlayer, .ref o_readBar, .int o_readPlayers, .int o_readBars, .ref o_text, .int o_length, .int o_at, .int o_faultAt, .int o_acts, .int o_next, .ref o_row, .int o_heard, .ref o_heardOf, .ref o_heardBars, .ref o_heardPlays, .int o_hushWho, .int o_hushSum, .long o_seed, .ref o_isKept, .ref o_kept])), (o_now, .inl (cI, 32, .inl r5.2)), (o_heardBars, .inl (cI, 6, .inl o_heardBars_v)), (o_noise, .inl (cI, 8, .inl o_noise_v)), (o_kind, .inl (cI, 6, .inl o_kind_v)), (o_looks, .inl (cI, 6, .inl o_looks_v)), (o_repeat, .inl (cI, 8, .inl o_repeat_v)), (o_heardOf, .inl (cI, 6, .inl o_heardOf_v)), (o_heardPlays, .inl (cI, 6, .inl o_heardPlays_v))]) [0, 1, 3, 4, 5, 6] [2, 7, 8] [3, 4, 0, 5, 6, 7, 8, 1, 2] rfl rfl rfl (by decide) rfl rfl (fun hB6 H locs hP hD hS => ?_)
    refine lv_pop hx hb dX5_mayBePaid_32 rfl ?_
    refine lv_iload_n hx hb dX5_mayBePaid_33 rfl (lv_at hl 2 rfl) ?_
    refine lv_if_eq (tgt := 83) hx hb dX5_mayBePaid_34 (by decide) (fun c_34 => ?_) (fun c_34 => ?_)
    · have hw := hw.trans (if_pos c_34)
      refine lv_iconst (v := 0) hx hb dX5_mayBePaid_83 (by decide) ?_
      refine lv_istore_n (lv' := [(2, .int 0), (0, .ref o_h), (1, .int x0), (3, .int (nI k4))]) hx hb dX5_mayBePaid_84 rfl hl (by decide) rfl (fun ls hl => ?_)
      refine lv_iinc (v := nI (k4 + 1)) (lv' := [(3, .int (nI (k4 + 1))), (2, .int 0), (0, .ref o_h), (1, .int x0)]) hx hb dX5_mayBePaid_85 hl (k := 3) rfl (nI_1 k4) (by decide) rfl (fun ls hl => ?_)
      refine lv_goto (tgt := 4) hx hb dX5_mayBePaid_88 (by decide) ?_
      subst hw
      exact ih ⟨(Or.inl rfl), hB6⟩ _ _ _ hP hD hS (lv_sub hl [2, 3, 1, 0] rfl)
    · have hw := hw.trans (if_neg c_34)
      refine lv_aload_n hx hb dX5_mayBePaid_37 rfl (lv_at hl 0 rfl) ?_
      refine lv_aload_n hx hb dX5_mayBePaid_38 rfl (lv_at hl 0 rfl) ?_
      refine va_get (D := (dC, dI)) (ci := 5) (v := .ref o_heardOf) (C := RX5) (T := TX5) (N := 29) hx hb hts hinX5 hown hK hP 0 rfl rfl 21 (by decide) w3 (fun _ h9 => h9) rfl dX5_mayBePaid_39 ?_
      refine lv_iload_n hx hb dX5_mayBePaid_42 rfl (lv_at hl 3 rfl) ?_
      refine va_iald hx hb hK hP 7 0 rfl rfl (n := 6) (f := o_heardOf_v) (hg_in (n := k4) (N := 6) rfl (by omega) (by decide)) dX5_mayBePaid_43 ?_
      obtain ⟨r7, er7, hw⟩ := lxb_o hw
      refine hg_ci (va_runV (As := [.int (o_heardOf_v (Int32.toNatClampNeg (nI k4)))]) (rest := []) ⟨hx, hb, hml, hown, hts⟩ (c_X5_isPlayer l dC dI cI cZ cM _ o_h (o_heardOf_v (Int32.toNatClampNeg (nI k4))) o_players o_bars o_price o_breath o_kind o_looks o_noise o_repeat o_now o_readPlayer o_readBar o_readPlayers o_readBars o_text o_length o_at o_faultAt o_acts o_next o_row o_heard o_heardOf o_heardBars o_heardPlays o_hushWho o_hushSum o_seed o_isKept o_kept np enp (by omega) nb enb (by omega) r7 er7) (cwV 1 hts gX5_mayBePaid_X5_isPlayer rfl rfl rfl (by decide +kernel) ⟨Nat.le_of_ble_eq_true rfl, Nat.le_of_ble_eq_true rfl⟩) (hgPreV (C := RX5) (T := TX5) (N := 29) (ci := 5) (q0 := 0) hP hD hK hN [0] rfl rfl rfl rfl) rfl rfl hl.1 rfl (lv_room (Nat.le_of_ble_eq_true rfl)) dX5_mayBePaid_44 ⟨Nat.zero_le _, Nat.zero_le _⟩) hP hD hS hA (wr := [(o_now, .inl (cI, 32, .inl r5.2)), (o_heardBars, .inl (cI, 6, .inl o_heardBars_v)), (o_noise, .inl (cI, 8, .inl o_noise_v)), (o_kind, .inl (cI, 6, .inl o_kind_v)), (o_looks, .inl (cI, 6, .inl o_looks_v)), (o_repeat, .inl (cI, 8, .inl o_repeat_v)), (o_heardOf, .inl (cI, 6, .inl o_heardOf_v)), (o_heardPlays, .inl (cI, 6, .inl o_heardPlays_v))]) (wf := [(o_h, .inr (5, [.int o_players, .int o_bars, .ref o_price, .ref o_breath, .ref o_kind, .ref o_looks, .ref o_noise, .ref o_repeat, .ref o_now, .ref o_readPlayer, .ref o_readBar, .int o_readPlayers, .int o_readBars, .ref o_text, .int o_length, .int o_at, .int o_faultAt, .int o_acts, .int o_next, .ref o_row, .int o_heard, .ref o_heardOf, .ref o_heardBars, .ref o_heardPlays, .int o_hushWho, .int o_hushSum, .long o_seed, .ref o_isKept, .ref o_kept])), (o_now, .inl (cI, 32, .inl r5.2)), (o_heardBars, .inl (cI, 6, .inl o_heardBars_v)), (o_noise, .inl (cI, 8, .inl o_noise_v)), (o_kind, .inl (cI, 6, .inl o_kind_v)), (o_looks, .inl (cI, 6, .inl o_looks_v)), (o_repeat, .inl (cI, 8, .inl o_repeat_v)), (o_heardOf, .inl (cI, 6, .inl o_heardOf_v)), (o_heardPlays, .inl (cI, 6, .inl o_heardPlays_v))]) [0] [1, 2, 3, 4, 5, 6, 7, 8] [8, 0, 1, 2, 3, 4, 5, 6, 7] rfl rfl rfl (by decide) rfl rfl (fun H locs hP hD hS => ?_)
      refine lv_if_eq (tgt := 79) hx hb dX5_mayBePaid_47 (by decide) (fun c_47 => ?_) (fun c_47 => ?_)
      · have hw := hw.trans (if_pos c_47)
        refine lv_iconst (v := 1) hx hb dX5_mayBePaid_79 (by decide) ?_
        refine lv_goto (tgt := 84) hx hb dX5_mayBePaid_80 (by decide) ?_
        refine lv_istore_n (lv' := [(2, .int 1), (0, .ref o_h), (1, .int x0), (3, .int (nI k4))]) hx hb dX5_mayBePaid_84 rfl hl (by decide) rfl (fun ls hl => ?_)
        refine lv_iinc (v := nI (k4 + 1)) (lv' := [(3, .int (nI (k4 + 1))), (2, .int 1), (0, .ref o_h), (1, .int x0)]) hx hb dX5_mayBePaid_85 hl (k := 3) rfl (nI_1 k4) (by decide) rfl (fun ls hl => ?_)
        refine lv_goto (tgt := 4) hx hb dX5_mayBePaid_88 (by decide) ?_
        subst hw
        exact ih ⟨(Or.inr rfl), hB6⟩ _ _ _ hP hD hS (lv_sub hl [2, 3, 1, 0] rfl)
      · have hw := hw.trans (if_neg c_47)
        refine lv_aload_n hx hb dX5_mayBePaid_50 rfl (lv_at hl 0 rfl) ?_
        refine lv_iconst (v := 1) hx hb dX5_mayBePaid_51 (by decide) ?_
        refine lv_aload_n hx hb dX5_mayBePaid_52 rfl (lv_at hl 0 rfl) ?_
        refine va_get (D := (dC, dI)) (ci := 5) (v := .ref o_heardOf) (C := RX5) (T := TX5) (N := 29) hx hb hts hinX5 hown hK hP 0 rfl rfl 21 (by decide) w3 (fun _ h9 => h9) rfl dX5_mayBePaid_53 ?_
        refine lv_iload_n hx hb dX5_mayBePaid_56 rfl (lv_at hl 3 rfl) ?_
        refine va_iald hx hb hK hP 7 0 rfl rfl (n := 6) (f := o_heardOf_v) (hg_in (n := k4) (N := 6) rfl (by omega) (by decide)) dX5_mayBePaid_57 ?_
        obtain ⟨r8, er8, hw⟩ := lxb_o hw
        refine hg_ci (va_runV (As := [.int 1, .int (o_heardOf_v (Int32.toNatClampNeg (nI k4)))]) (rest := []) ⟨hx, hb, hml, hown, hts⟩ (c_X5_plays l dC dI cI cZ cM _ o_h 1 (o_heardOf_v (Int32.toNatClampNeg (nI k4))) o_players o_bars o_price o_breath o_kind o_looks o_noise o_repeat o_now o_readPlayer o_readBar o_readPlayers o_readBars o_text o_length o_at o_faultAt o_acts o_next o_row o_heard o_heardOf o_heardBars o_heardPlays o_hushWho o_hushSum o_seed o_isKept o_kept r5.2 np enp (by omega) nb enb (by omega) 1 (show (1 : Int32) = nI 1 from rfl) (by omega) r8 er8) (cwV 2 hts gX5_mayBePaid_X5_plays rfl rfl rfl (by decide +kernel) ⟨Nat.le_of_ble_eq_true rfl, Nat.le_of_ble_eq_true rfl⟩) (hgPreV (C := RX5) (T := TX5) (N := 29) (ci := 5) (q0 := 0) hP hD hK hN [0, 1] rfl rfl rfl rfl) rfl rfl hl.1 rfl (lv_room (Nat.le_of_ble_eq_true rfl)) dX5_mayBePaid_58 ⟨Nat.zero_le _, Nat.zero_le _⟩) hP hD hS hA (wr := [(o_heardBars, .inl (cI, 6, .inl o_heardBars_v)), (o_noise, .inl (cI, 8, .inl o_noise_v)), (o_kind, .inl (cI, 6, .inl o_kind_v)), (o_looks, .inl (cI, 6, .inl o_looks_v)), (o_repeat, .inl (cI, 8, .inl o_repeat_v)), (o_heardOf, .inl (cI, 6, .inl o_heardOf_v)), (o_heardPlays, .inl (cI, 6, .inl o_heardPlays_v))]) (wf := [(o_h, .inr (5, [.int o_players, .int o_bars, .ref o_price, .ref o_breath, .ref o_kind, .ref o_looks, .ref o_noise, .ref o_repeat, .ref o_now, .ref o_readPlayer, .ref o_readBar, .int o_readPlayers, .int o_readBars, .ref o_text, .int o_length, .int o_at, .int o_faultAt, .int o_acts, .int o_next, .ref o_row, .int o_heard, .ref o_heardOf, .ref o_heardBars, .ref o_heardPlays, .int o_hushWho, .int o_hushSum, .long o_seed, .ref o_isKept, .ref o_kept])), (o_now, .inl (cI, 32, .inl r5.2)), (o_heardBars, .inl (cI, 6, .inl o_heardBars_v)), (o_noise, .inl (cI, 8, .inl o_noise_v)), (o_kind, .inl (cI, 6, .inl o_kind_v)), (o_looks, .inl (cI, 6, .inl o_looks_v)), (o_repeat, .inl (cI, 8, .inl o_repeat_v)), (o_heardOf, .inl (cI, 6, .inl o_heardOf_v)), (o_heardPlays, .inl (cI, 6, .inl o_heardPlays_v))]) [0, 1] [2, 3, 4, 5, 6, 7, 8] [7, 8, 0, 1, 2, 3, 4, 5, 6] rfl rfl rfl (by decide) rfl rfl (fun H locs hP hD hS => ?_)
        refine lv_aload_n hx hb dX5_mayBePaid_61 rfl (lv_at hl 0 rfl) ?_
        refine va_get (D := (dC, dI)) (ci := 5) (v := .ref o_heardPlays) (C := RX5) (T := TX5) (N := 29) hx hb hts hinX5 hown hK hP 0 rfl rfl 23 (by decide) w4 (fun _ h9 => h9) rfl dX5_mayBePaid_62 ?_
        refine lv_iload_n hx hb dX5_mayBePaid_65 rfl (lv_at hl 3 rfl) ?_
        refine va_iald hx hb hK hP 8 0 rfl rfl (n := 6) (f := o_heardPlays_v) (hg_in (n := k4) (N := 6) rfl (by omega) (by decide)) dX5_mayBePaid_66 ?_
        refine lv_iconst (v := 1) hx hb dX5_mayBePaid_67 (by decide) ?_
        refine lv_icmp_ne (tgt := 75) hx hb dX5_mayBePaid_68 (by decide) (fun c_68 => ?_) (fun c_68 => ?_)
        · have hw := hw.trans (if_neg c_68)
          refine lv_iconst (v := 0) hx hb dX5_mayBePaid_75 (by decide) ?_
          refine lv_icmp_ne (tgt := 83) hx hb dX5_mayBePaid_76 (by decide) (fun c_76 => ?_) (fun c_76 => ?_)
          · have hw := hw.trans (if_neg c_76)
            refine lv_iconst (v := 0) hx hb dX5_mayBePaid_83 (by decide) ?_
            refine lv_istore_n (lv' := [(2, .int 0), (0, .ref o_h), (1, .int x0), (3, .int (nI k4))]) hx hb dX5_mayBePaid_84 rfl hl (by decide) rfl (fun ls hl => ?_)
            refine lv_iinc (v := nI (k4 + 1)) (lv' := [(3, .int (nI (k4 + 1))), (2, .int 0), (0, .ref o_h), (1, .int x0)]) hx hb dX5_mayBePaid_85 hl (k := 3) rfl (nI_1 k4) (by decide) rfl (fun ls hl => ?_)
            refine lv_goto (tgt := 4) hx hb dX5_mayBePaid_88 (by decide) ?_
            subst hw
            exact ih ⟨(Or.inl rfl), hB6⟩ _ _ _ hP hD hS (lv_sub hl [2, 3, 1, 0] rfl)
          · have hw := hw.trans (if_pos c_76)
            refine lv_iconst (v := 1) hx hb dX5_mayBePaid_79 (by decide) ?_
            refine lv_goto (tgt := 84) hx hb dX5_mayBePaid_80 (by decide) ?_
            refine lv_istore_n (lv' := [(2, .int 1), (0, .ref o_h), (1, .int x0), (3, .int (nI k4))]) hx hb dX5_mayBePaid_84 rfl hl (by decide) rfl (fun ls hl => ?_)
            refine lv_iinc (v := nI (k4 + 1)) (lv' := [(3, .int (nI (k4 + 1))), (2, .int 1), (0, .ref o_h), (1, .int x0)]) hx hb dX5_mayBePaid_85 hl (k := 3) rfl (nI_1 k4) (by decide) rfl (fun ls hl => ?_)
            refine lv_goto (tgt := 4) hx hb dX5_mayBePaid_88 (by decide) ?_
            subst hw
            exact ih ⟨(Or.inr rfl), hB6⟩ _ _ _ hP hD hS (lv_sub hl [2, 3, 1, 0] rfl)
        · have hw := hw.trans (if_pos c_68)
          refine lv_iconst (v := 1) hx hb dX5_mayBePaid_71 (by decide) ?_
          refine lv_goto (tgt := 76) hx hb dX5_mayBePaid_72 (by decide) ?_
          refine lv_icmp_ne (tgt := 83) hx hb dX5_mayBePaid_76 (by decide) (fun c_76 => ?_) (fun c_76 => ?_)
          · have hw := hw.trans (if_neg c_76)
            refine lv_iconst (v := 0) hx hb dX5_mayBePaid_83 (by decide) ?_
            refine lv_istore_n (lv' := [(2, .int 0), (0, .ref o_h), (1, .int x0), (3, .int (nI k4))]) hx hb dX5_mayBePaid_84 rfl hl (by decide) rfl (fun ls hl => ?_)
            refine lv_iinc (v := nI (k4 + 1)) (lv' := [(3, .int (nI (k4 + 1))), (2, .int 0), (0, .ref o_h), (1, .int x0)]) hx hb dX5_mayBePaid_85 hl (k := 3) rfl (nI_1 k4) (by decide) rfl (fun ls hl => ?_)
            refine lv_goto (tgt := 4) hx hb dX5_mayBePaid_88 (by decide) ?_
            subst hw
            exact ih ⟨(Or.inl rfl), hB6⟩ _ _ _ hP hD hS (lv_sub hl [2, 3, 1, 0] rfl)
          · have hw := hw.trans (if_pos c_76)
            refine lv_iconst (v := 1) hx hb dX5_mayBePaid_79 (by decide) ?_
            refine lv_goto (tgt := 84) hx hb dX5_mayBePaid_80 (by decide) ?_
            refine lv_istore_n (lv' := [(2, .int 1), (0, .ref o_h), (1, .int x0), (3, .int (nI k4))]) hx hb dX5_mayBePaid_84 rfl hl (by decide) rfl (fun ls hl => ?_)
            refine lv_iinc (v := nI (k4 + 1)) (lv' := [(3, .int (nI (k4 + 1))), (2, .int 1), (0, .ref o_h), (1, .int x0)]) hx hb dX5_mayBePaid_85 hl (k := 3) rfl (nI_1 k4) (by decide) rfl (fun ls hl => ?_)
            refine lv_goto (tgt := 4) hx hb dX5_mayBePaid_88 (by decide) ?_
            subst hw
            exact ih ⟨(Or.inr rfl), hB6⟩ _ _ _ hP hD hS (lv_sub hl [2, 3, 1, 0] rfl)

set_option maxHeartbeats 4000000 in
set_option maxRecDepth 100000 in
theorem c_X5_pays (l : Launch) (dC : Nat → ClassId) (dI : Nat → Nat → Nat) (cI cZ cM : ClassId) (sz : Nat) (o_h : Nat) (x0 : Int32) (o_players : Int32) (o_bars : Int32) (o_price : Nat) (o_breath : Nat) (o_kind : Nat) (o_looks : Nat) (o_noise : Nat) (o_repeat : Nat) (o_now : Nat) (o_readPlayer : Nat) (o_readBar : Nat) (o_readPlayers : Int32) (o_readBars : Int32) (o_text : Nat) (o_length : Int32) (o_at : Int32) (o_faultAt : Int32) (o_acts : Int32) (o_next : Int32) (o_row : Nat) (o_heard : Int32) (o_heardOf : Nat) (o_heardBars : Nat) (o_heardPlays : Nat) (o_hushWho : Int32) (o_hushSum : Int32) (o_seed : Int64) (o_isKept : Nat) (o_kept : Nat) (o_now_v : Nat → Int32) (o_heardBars_v : Nat → Int32) (o_noise_v : Nat → Int32) (o_kind_v : Nat → Int32) (o_looks_v : Nat → Int32) (o_repeat_v : Nat → Int32) (o_heardOf_v : Nat → Int32) (o_heardPlays_v : Nat → Int32) (np : Nat) (enp : o_players = nI np) (hnp : np ≤ 6) (nb : Nat) (enb : o_bars = nI nb) (hnb : nb ≤ 8) (nh : Nat) (enh : o_heard = nI nh) (hnh : nh ≤ 6) (hB : mB o_now_v) (u : Int32 × (Nat → Int32)) (hu : u = f_X5_pays x0 o_players o_bars o_heard o_now_v o_heardBars_v o_noise_v o_kind_v o_looks_v o_repeat_v o_heardOf_v o_heardPlays_v) : Met l yX5_pays wsX5_pays { frames := 7, cells := 0, slots := 0, locals := 163 } (hgPc [.ref o_h, .int x0] (dC, dI) cI cZ cM [(o_h, .inr (5, [.int o_players, .int o_bars, .ref o_price, .ref o_breath, .ref o_kind, .ref o_looks, .ref o_noise, .ref o_repeat, .ref o_now, .ref o_readPlayer, .ref o_readBar, .int o_readPlayers, .int o_readBars, .ref o_text, .int o_length, .int o_at, .int o_faultAt, .int o_acts, .int o_next, .ref o_row, .int o_heard, .ref o_heardOf, .ref o_heardBars, .ref o_heardPlays, .int o_hushWho, .int o_hushSum, .long o_seed, .ref o_isKept, .ref o_kept])), (o_now, .inl (cI, 32, .inl o_now_v)), (o_heardBars, .inl (cI, 6, .inl o_heardBars_v)), (o_noise, .inl (cI, 8, .inl o_noise_v)), (o_kind, .inl (cI, 6, .inl o_kind_v)), (o_looks, .inl (cI, 6, .inl o_looks_v)), (o_repeat, .inl (cI, 8, .inl o_repeat_v)), (o_heardOf, .inl (cI, 6, .inl o_heardOf_v)), (o_heardPlays, .inl (cI, 6, .inl o_heardPlays_v))] sz) (hgQi (dC, dI) u.1 [(o_h, .inr (5, [.int o_players, .int o_bars, .ref o_price, .ref o_breath, .ref o_kind, .ref o_looks, .ref o_noise, .ref o_repeat, .ref o_now, .ref o_readPlayer, .ref o_readBar, .int o_readPlayers, .int o_readBars, .ref o_text, .int o_length, .int o_at, .int o_faultAt, .int o_acts, .int o_next, .ref o_row, .int o_heard, .ref o_heardOf, .ref o_heardBars, .ref o_heardPlays, .int o_hushWho, .int o_hushSum, .long o_seed, .ref o_isKept, .ref o_kept])), (o_now, .inl (cI, 32, .inl u.2)), (o_heardBars, .inl (cI, 6, .inl o_heardBars_v)), (o_noise, .inl (cI, 8, .inl o_noise_v)), (o_kind, .inl (cI, 6, .inl o_kind_v)), (o_looks, .inl (cI, 6, .inl o_looks_v)), (o_repeat, .inl (cI, 8, .inl o_repeat_v)), (o_heardOf, .inl (cI, 6, .inl o_heardOf_v)), (o_heardPlays, .inl (cI, 6, .inl o_heardPlays_v))] (va_A [(o_h, .inr (5, [.int o_players, .int o_bars, .ref o_price, .ref o_breath, .ref o_kind, .ref o_looks, .ref o_noise, .ref o_repeat, .ref o_now, .ref o_readPlayer, .ref o_readBar, .int o_readPlayers, .int o_readBars, .ref o_text, .int o_length, .int o_at, .int o_faultAt, .int o_acts, .int o_next, .ref o_row, .int o_heard, .ref o_heardOf, .ref o_heardBars, .ref o_heardPlays, .int o_hushWho, .int o_hushSum, .long o_seed, .ref o_isKept, .ref o_kept])), (o_now, .inl (cI, 32, .inl o_now_v)), (o_heardBars, .inl (cI, 6, .inl o_heardBars_v)), (o_noise, .inl (cI, 8, .inl o_noise_v)), (o_kind, .inl (cI, 6, .inl o_kind_v)), (o_looks, .inl (cI, 6, .inl o_looks_v)), (o_repeat, .inl (cI, 8, .inl o_repeat_v)), (o_heardOf, .inl (cI, 6, .inl o_heardOf_v)), (o_heardPlays, .inl (cI, 6, .inl o_heardPlays_v))] sz)) 0 0 (va_A [(o_h, .inr (5, [.int o_players, .int o_bars, .ref o_price, .ref o_breath, .ref o_kind, .ref o_looks, .ref o_noise, .ref o_repeat, .ref o_now, .ref o_readPlayer, .ref o_readBar, .int o_readPlayers, .int o_readBars, .ref o_text, .int o_length, .int o_at, .int o_faultAt, .int o_acts, .int o_next, .ref o_row, .int o_heard, .ref o_heardOf, .ref o_heardBars, .ref o_heardPlays, .int o_hushWho, .int o_hushSum, .long o_seed, .ref o_isKept, .ref o_kept])), (o_now, .inl (cI, 32, .inl o_now_v)), (o_heardBars, .inl (cI, 6, .inl o_heardBars_v)), (o_noise, .inl (cI, 8, .inl o_noise_v)), (o_kind, .inl (cI, 6, .inl o_kind_v)), (o_looks, .inl (cI, 6, .inl o_looks_v)), (o_repeat, .inl (cI, 8, .inl o_repeat_v)), (o_heardOf, .inl (cI, 6, .inl o_heardOf_v)), (o_heardPlays, .inl (cI, 6, .inl o_heardPlays_v))] sz) := by
  refine hg_ofW (cc := cX5_pays) (maxL := 6) (ret := (some .int)) (own := RX5) (fun A => hgQi (dC, dI) u.1 [(o_h, .inr (5, [.int o_players, .int o_bars, .ref o_price, .ref o_breath, .ref o_kind, .ref o_looks, .ref o_noise, .ref o_repeat, .ref o_now, .ref o_readPlayer, .ref o_readBar, .int o_readPlayers, .int o_readBars, .ref o_text, .int o_length, .int o_at, .int o_faultAt, .int o_acts, .int o_next, .ref o_row, .int o_heard, .ref o_heardOf, .ref o_heardBars, .ref o_heardPlays, .int o_hushWho, .int o_hushSum, .long o_seed, .ref o_isKept, .ref o_kept])), (o_now, .inl (cI, 32, .inl u.2)), (o_heardBars, .inl (cI, 6, .inl o_heardBars_v)), (o_noise, .inl (cI, 8, .inl o_noise_v)), (o_kind, .inl (cI, 6, .inl o_kind_v)), (o_looks, .inl (cI, 6, .inl o_looks_v)), (o_repeat, .inl (cI, 8, .inl o_repeat_v)), (o_heardOf, .inl (cI, 6, .inl o_heardOf_v)), (o_heardPlays, .inl (cI, 6, .inl o_heardPlays_v))] A) rfl (by decide) rfl (Nat.le_of_ble_eq_true rfl) ?_
  intro p e s m below meth c ls A hsz hx hb hr hml hown hts hlk hnm hK hN hA hP hD hS hl
  subst hsz
  have w1 := hts (.fieldLink RX5 93 "HatGoesRoundModel" "players" "I") (List.mem_of_getElem? (i := 1) rfl)
  have hinX5 : ∀ w ∈ u_ws RX5 TX5 29, w ∈ wsX5_pays := fun _ h => List.mem_cons_of_mem _ (List.mem_append_right _ h)
  have hl : lv_has ls 6 [(0, .ref o_h), (1, .int x0)] := hl
  unfold f_X5_pays at hu
  refine lv_iload_n hx hb dX5_pays_0 rfl (lv_at hl 1 rfl) ?_
  refine lv_i2l (v := (Int32.toInt64 x0)) hx hb dX5_pays_1 rfl ?_
  refine lv_lconst (v := 0) hx hb dX5_pays_2 (by decide) ?_
  refine lv_lconst (v := 1) hx hb dX5_pays_3 (by decide) ?_
  obtain ⟨r1, er1, hu⟩ := lxb_o hu
  refine hg_ci (va_runS (As := [.long (Int32.toInt64 x0), .long 0, .long 1]) (rest := []) ⟨hx, hb, hml, hown, hts⟩ (c_X5_in l dC dI cI cZ cM _ (Int32.toInt64 x0) 0 1 r1 er1) (va_cwS 3 hts gX5_pays_X5_in rfl rfl rfl (by decide +kernel) ⟨Nat.le_of_ble_eq_true rfl, Nat.le_of_ble_eq_true rfl⟩) (hgPreS hP hD hK hN [] rfl rfl) rfl rfl hl.1 rfl (lv_room (Nat.le_of_ble_eq_true rfl)) dX5_pays_4 ⟨Nat.zero_le _, Nat.zero_le _⟩) hP hD hS hA (wr := [(o_h, .inr (5, [.int o_players, .int o_bars, .ref o_price, .ref o_breath, .ref o_kind, .ref o_looks, .ref o_noise, .ref o_repeat, .ref o_now, .ref o_readPlayer, .ref o_readBar, .int o_readPlayers, .int o_readBars, .ref o_text, .int o_length, .int o_at, .int o_faultAt, .int o_acts, .int o_next, .ref o_row, .int o_heard, .ref o_heardOf, .ref o_heardBars, .ref o_heardPlays, .int o_hushWho, .int o_hushSum, .long o_seed, .ref o_isKept, .ref o_kept])), (o_now, .inl (cI, 32, .inl o_now_v)), (o_heardBars, .inl (cI, 6, .inl o_heardBars_v)), (o_noise, .inl (cI, 8, .inl o_noise_v)), (o_kind, .inl (cI, 6, .inl o_kind_v)), (o_looks, .inl (cI, 6, .inl o_looks_v)), (o_repeat, .inl (cI, 8, .inl o_repeat_v)), (o_heardOf, .inl (cI, 6, .inl o_heardOf_v)), (o_heardPlays, .inl (cI, 6, .inl o_heardPlays_v))]) (wf := [(o_h, .inr (5, [.int o_players, .int o_bars, .ref o_price, .ref o_breath, .ref o_kind, .ref o_looks, .ref o_noise, .ref o_repeat, .ref o_now, .ref o_readPlayer, .ref o_readBar, .int o_readPlayers, .int o_readBars, .ref o_text, .int o_length, .int o_at, .int o_faultAt, .int o_acts, .int o_next, .ref o_row, .int o_heard, .ref o_heardOf, .ref o_heardBars, .ref o_heardPlays, .int o_hushWho, .int o_hushSum, .long o_seed, .ref o_isKept, .ref o_kept])), (o_now, .inl (cI, 32, .inl o_now_v)), (o_heardBars, .inl (cI, 6, .inl o_heardBars_v)), (o_noise, .inl (cI, 8, .inl o_noise_v)), (o_kind, .inl (cI, 6, .inl o_kind_v)), (o_looks, .inl (cI, 6, .inl o_looks_v)), (o_repeat, .inl (cI, 8, .inl o_repeat_v)), (o_heardOf, .inl (cI, 6, .inl o_heardOf_v)), (o_heardPlays, .inl (cI, 6, .inl o_heardPlays_v))]) [] [0, 1, 2, 3, 4, 5, 6, 7, 8] [0, 1, 2, 3, 4, 5, 6, 7, 8] rfl rfl rfl (by decide) rfl rfl (fun H locs hP hD hS => ?_)
  refine lv_if_ne (tgt := 13) hx hb dX5_pays_7 (by decide) (fun c_7 => ?_) (fun c_7 => ?_)
  · have hu := hu.trans (if_neg c_7)
    refine lv_aload_n hx hb dX5_pays_13 rfl (lv_at hl 0 rfl) ?_
    refine lv_iconst (v := 0) hx hb dX5_pays_14 (by decide) ?_
    refine lv_iconst (v := 0) hx hb dX5_pays_15 (by decide) ?_
    obtain ⟨r2, er2, hu⟩ := lxb_o hu
    refine hg_ci (va_runV (As := [.int 0, .int 0]) (rest := []) ⟨hx, hb, hml, hown, hts⟩ (c_X5_whoIs l dC dI cI cZ cM _ o_h 0 0 o_players o_bars o_price o_breath o_kind o_looks o_noise o_repeat o_now o_readPlayer o_readBar o_readPlayers o_readBars o_text o_length o_at o_faultAt o_acts o_next o_row o_heard o_heardOf o_heardBars o_heardPlays o_hushWho o_hushSum o_seed o_isKept o_kept o_now_v np enp (by omega) nb enb (by omega) 0 (show (0 : Int32) = nI 0 from rfl) (by omega) r2 er2) (cwV 2 hts gX5_pays_X5_whoIs rfl rfl rfl (by decide +kernel) ⟨Nat.le_of_ble_eq_true rfl, Nat.le_of_ble_eq_true rfl⟩) (hgPreV (C := RX5) (T := TX5) (N := 29) (ci := 5) (q0 := 0) hP hD hK hN [0, 1] rfl rfl rfl rfl) rfl rfl hl.1 rfl (lv_room (Nat.le_of_ble_eq_true rfl)) dX5_pays_16 ⟨Nat.zero_le _, Nat.zero_le _⟩) hP hD hS hA (wr := [(o_heardBars, .inl (cI, 6, .inl o_heardBars_v)), (o_noise, .inl (cI, 8, .inl o_noise_v)), (o_kind, .inl (cI, 6, .inl o_kind_v)), (o_looks, .inl (cI, 6, .inl o_looks_v)), (o_repeat, .inl (cI, 8, .inl o_repeat_v)), (o_heardOf, .inl (cI, 6, .inl o_heardOf_v)), (o_heardPlays, .inl (cI, 6, .inl o_heardPlays_v))]) (wf := [(o_h, .inr (5, [.int o_players, .int o_bars, .ref o_price, .ref o_breath, .ref o_kind, .ref o_looks, .ref o_noise, .ref o_repeat, .ref o_now, .ref o_readPlayer, .ref o_readBar, .int o_readPlayers, .int o_readBars, .ref o_text, .int o_length, .int o_at, .int o_faultAt, .int o_acts, .int o_next, .ref o_row, .int o_heard, .ref o_heardOf, .ref o_heardBars, .ref o_heardPlays, .int o_hushWho, .int o_hushSum, .long o_seed, .ref o_isKept, .ref o_kept])), (o_now, .inl (cI, 32, .inl o_now_v)), (o_heardBars, .inl (cI, 6, .inl o_heardBars_v)), (o_noise, .inl (cI, 8, .inl o_noise_v)), (o_kind, .inl (cI, 6, .inl o_kind_v)), (o_looks, .inl (cI, 6, .inl o_looks_v)), (o_repeat, .inl (cI, 8, .inl o_repeat_v)), (o_heardOf, .inl (cI, 6, .inl o_heardOf_v)), (o_heardPlays, .inl (cI, 6, .inl o_heardPlays_v))]) [0, 1] [2, 3, 4, 5, 6, 7, 8] [7, 8, 0, 1, 2, 3, 4, 5, 6] rfl rfl rfl (by decide) rfl rfl (fun H locs hP hD hS => ?_)
    refine lv_istore_n (lv' := [(2, .int r2), (0, .ref o_h), (1, .int x0)]) hx hb dX5_pays_19 rfl hl (by decide) rfl (fun ls hl => ?_)
    refine lv_iconst (v := 0) hx hb dX5_pays_20 (by decide) ?_
    refine lv_istore_n (lv' := [(3, .int 0), (2, .int r2), (0, .ref o_h), (1, .int x0)]) hx hb dX5_pays_21 rfl hl (by decide) rfl (fun ls hl => ?_)
    refine lv_bipush (v := (-9)) hx hb dX5_pays_22 (by decide) ?_
    refine lv_istore (lv' := [(4, .int (-9)), (3, .int 0), (2, .int r2), (0, .ref o_h), (1, .int x0)]) hx hb dX5_pays_24 hl (by decide) rfl (fun ls hl => ?_)
    refine lv_iconst (v := 0) hx hb dX5_pays_26 (by decide) ?_
    refine lv_istore (lv' := [(5, .int 0), (4, .int (-9)), (3, .int 0), (2, .int r2), (0, .ref o_h), (1, .int x0)]) hx hb dX5_pays_27 hl (by decide) rfl (fun ls hl => ?_)
    obtain ⟨r7, er7, hu⟩ := lxb_o hu
    refine hg_loopFJ (T := Int32 × Int32 × (Nat → Int32)) (N := (itn 0 (1 <<< (o_players &&& 31)))) (fun v29 => (mB v29.2.2)) (fun v29 => [(o_h, .inr (5, [.int o_players, .int o_bars, .ref o_price, .ref o_breath, .ref o_kind, .ref o_looks, .ref o_noise, .ref o_repeat, .ref o_now, .ref o_readPlayer, .ref o_readBar, .int o_readPlayers, .int o_readBars, .ref o_text, .int o_length, .int o_at, .int o_faultAt, .int o_acts, .int o_next, .ref o_row, .int o_heard, .ref o_heardOf, .ref o_heardBars, .ref o_heardPlays, .int o_hushWho, .int o_hushSum, .long o_seed, .ref o_isKept, .ref o_kept])), (o_now, .inl (cI, 32, .inl v29.2.2)), (o_heardBars, .inl (cI, 6, .inl o_heardBars_v)), (o_noise, .inl (cI, 8, .inl o_noise_v)), (o_kind, .inl (cI, 6, .inl o_kind_v)), (o_looks, .inl (cI, 6, .inl o_looks_v)), (o_repeat, .inl (cI, 8, .inl o_repeat_v)), (o_heardOf, .inl (cI, 6, .inl o_heardOf_v)), (o_heardPlays, .inl (cI, 6, .inl o_heardPlays_v))]) (fun k29 v29 => [(0, .ref o_h), (1, .int x0), (2, .int r2), (3, .int v29.1), (4, .int v29.2.1), (5, .int (nI k29))]) (fun k29 => l_X5_pays_29 o_players o_bars o_heard o_heardBars_v o_noise_v o_kind_v o_looks_v o_repeat_v o_heardOf_v o_heardPlays_v r2 (0, (-9), o_now_v) k29) hB ?_ ?_ hP hD hS (lv_sub hl [4, 5, 3, 2, 1, 0] rfl)
    · intro v29 hJ29 hv H locs ls hP hD hS hl
      obtain rfl : r7 = v29 := er7.trans hv.symm
      have hP : va_P (dC, dI) vwCl [(o_h, .inr (5, [.int o_players, .int o_bars, .ref o_price, .ref o_breath, .ref o_kind, .ref o_looks, .ref o_noise, .ref o_repeat, .ref o_now, .ref o_readPlayer, .ref o_readBar, .int o_readPlayers, .int o_readBars, .ref o_text, .int o_length, .int o_at, .int o_faultAt, .int o_acts, .int o_next, .ref o_row, .int o_heard, .ref o_heardOf, .ref o_heardBars, .ref o_heardPlays, .int o_hushWho, .int o_hushSum, .long o_seed, .ref o_isKept, .ref o_kept])), (o_now, .inl (cI, 32, .inl r7.2.2)), (o_heardBars, .inl (cI, 6, .inl o_heardBars_v)), (o_noise, .inl (cI, 8, .inl o_noise_v)), (o_kind, .inl (cI, 6, .inl o_kind_v)), (o_looks, .inl (cI, 6, .inl o_looks_v)), (o_repeat, .inl (cI, 8, .inl o_repeat_v)), (o_heardOf, .inl (cI, 6, .inl o_heardOf_v)), (o_heardPlays, .inl (cI, 6, .inl o_heardPlays_v))] H := hP
      have hD : va_D A [(o_h, .inr (5, [.int o_players, .int o_bars, .ref o_price, .ref o_breath, .ref o_kind, .ref o_looks, .ref o_noise, .ref o_repeat, .ref o_now, .ref o_readPlayer, .ref o_readBar, .int o_readPlayers, .int o_readBars, .ref o_text, .int o_length, .int o_at, .int o_faultAt, .int o_acts, .int o_next, .ref o_row, .int o_heard, .ref o_heardOf, .ref o_heardBars, .ref o_heardPlays, .int o_hushWho, .int o_hushSum, .long o_seed, .ref o_isKept, .ref o_kept])), (o_now, .inl (cI, 32, .inl r7.2.2)), (o_heardBars, .inl (cI, 6, .inl o_heardBars_v)), (o_noise, .inl (cI, 8, .inl o_noise_v)), (o_kind, .inl (cI, 6, .inl o_kind_v)), (o_looks, .inl (cI, 6, .inl o_looks_v)), (o_repeat, .inl (cI, 8, .inl o_repeat_v)), (o_heardOf, .inl (cI, 6, .inl o_heardOf_v)), (o_heardPlays, .inl (cI, 6, .inl o_heardPlays_v))] := hD
      have hl : lv_has ls 6 [(0, .ref o_h), (1, .int x0), (2, .int r2), (3, .int r7.1), (4, .int r7.2.1), (5, .int (nI (itn 0 (1 <<< (o_players &&& 31)))))] := hl
      refine lv_iload hx hb dX5_pays_29 (lv_at hl 5 rfl) ?_
      refine lv_iconst (v := 1) hx hb dX5_pays_31 (by decide) ?_
      refine lv_aload_n hx hb dX5_pays_32 rfl (lv_at hl 0 rfl) ?_
      refine va_get (D := (dC, dI)) (ci := 5) (v := .int o_players) (C := RX5) (T := TX5) (N := 29) hx hb hts hinX5 hown hK hP 0 rfl rfl 0 (by decide) w1 (fun _ h9 => h9) rfl dX5_pays_33 ?_
      refine lv_ishl hx hb dX5_pays_36 ?_
      refine lv_icmp_ge (tgt := 80) hx hb dX5_pays_37 (by decide) (fun c_37 => ?_) (fun c_37 => absurd hg_lo0 c_37)
      refine lv_iload_n hx hb dX5_pays_80 rfl (lv_at hl 1 rfl) ?_
      refine lv_if_ne (tgt := 88) hx hb dX5_pays_81 (by decide) (fun c_81 => ?_) (fun c_81 => ?_)
      · have hu := hu.trans (if_neg c_81)
        refine lv_iload hx hb dX5_pays_88 (lv_at hl 4 rfl) ?_
        subst hu
        exact hg_ri hx hb hr hlk rfl hP hD hS dX5_pays_90
      · have hu := hu.trans (if_pos c_81)
        refine lv_iload_n hx hb dX5_pays_84 rfl (lv_at hl 3 rfl) ?_
        refine lv_goto (tgt := 90) hx hb dX5_pays_85 (by decide) ?_
        subst hu
        exact hg_ri hx hb hr hlk rfl hP hD hS dX5_pays_90
    · intro k29 hk v29 hJ29 hv w hw ih H locs ls hP hD hS hl
      have hw : w = b_X5_pays_29 o_players o_bars o_heard o_heardBars_v o_noise_v o_kind_v o_looks_v o_repeat_v o_heardOf_v o_heardPlays_v r2 k29 v29 := by rw [hw, hv]; rfl
      unfold b_X5_pays_29 at hw
      have hP : va_P (dC, dI) vwCl [(o_h, .inr (5, [.int o_players, .int o_bars, .ref o_price, .ref o_breath, .ref o_kind, .ref o_looks, .ref o_noise, .ref o_repeat, .ref o_now, .ref o_readPlayer, .ref o_readBar, .int o_readPlayers, .int o_readBars, .ref o_text, .int o_length, .int o_at, .int o_faultAt, .int o_acts, .int o_next, .ref o_row, .int o_heard, .ref o_heardOf, .ref o_heardBars, .ref o_heardPlays, .int o_hushWho, .int o_hushSum, .long o_seed, .ref o_isKept, .ref o_kept])), (o_now, .inl (cI, 32, .inl v29.2.2)), (o_heardBars, .inl (cI, 6, .inl o_heardBars_v)), (o_noise, .inl (cI, 8, .inl o_noise_v)), (o_kind, .inl (cI, 6, .inl o_kind_v)), (o_looks, .inl (cI, 6, .inl o_looks_v)), (o_repeat, .inl (cI, 8, .inl o_repeat_v)), (o_heardOf, .inl (cI, 6, .inl o_heardOf_v)), (o_heardPlays, .inl (cI, 6, .inl o_heardPlays_v))] H := hP
      have hD : va_D A [(o_h, .inr (5, [.int o_players, .int o_bars, .ref o_price, .ref o_breath, .ref o_kind, .ref o_looks, .ref o_noise, .ref o_repeat, .ref o_now, .ref o_readPlayer, .ref o_readBar, .int o_readPlayers, .int o_readBars, .ref o_text, .int o_length, .int o_at, .int o_faultAt, .int o_acts, .int o_next, .ref o_row, .int o_heard, .ref o_heardOf, .ref o_heardBars, .ref o_heardPlays, .int o_hushWho, .int o_hushSum, .long o_seed, .ref o_isKept, .ref o_kept])), (o_now, .inl (cI, 32, .inl v29.2.2)), (o_heardBars, .inl (cI, 6, .inl o_heardBars_v)), (o_noise, .inl (cI, 8, .inl o_noise_v)), (o_kind, .inl (cI, 6, .inl o_kind_v)), (o_looks, .inl (cI, 6, .inl o_looks_v)), (o_repeat, .inl (cI, 8, .inl o_repeat_v)), (o_heardOf, .inl (cI, 6, .inl o_heardOf_v)), (o_heardPlays, .inl (cI, 6, .inl o_heardPlays_v))] := hD
      have hl : lv_has ls 6 [(0, .ref o_h), (1, .int x0), (2, .int r2), (3, .int v29.1), (4, .int v29.2.1), (5, .int (nI k29))] := hl
      refine lv_iload hx hb dX5_pays_29 (lv_at hl 5 rfl) ?_
      refine lv_iconst (v := 1) hx hb dX5_pays_31 (by decide) ?_
      refine lv_aload_n hx hb dX5_pays_32 rfl (lv_at hl 0 rfl) ?_
      refine va_get (D := (dC, dI)) (ci := 5) (v := .int o_players) (C := RX5) (T := TX5) (N := 29) hx hb hts hinX5 hown hK hP 0 rfl rfl 0 (by decide) w1 (fun _ h9 => h9) rfl dX5_pays_33 ?_
      refine lv_ishl hx hb dX5_pays_36 ?_
      refine lv_icmp_ge (tgt := 80) hx hb dX5_pays_37 (by decide) (fun c_37 => absurd c_37 (hg_lo1 hk)) (fun c_37 => ?_)
      refine lv_iload hx hb dX5_pays_40 (lv_at hl 5 rfl) ?_
      refine lv_iload_n hx hb dX5_pays_42 rfl (lv_at hl 2 rfl) ?_
      refine lv_iconst (v := (-1)) hx hb dX5_pays_43 (by decide) ?_
      refine lv_ixor hx hb dX5_pays_44 ?_
      refine lv_iand hx hb dX5_pays_45 ?_
      refine lv_if_ne (tgt := 74) hx hb dX5_pays_46 (by decide) (fun c_46 => ?_) (fun c_46 => ?_)
      · have hw := hw.trans (if_neg c_46)
        refine lv_iinc (v := nI (k29 + 1)) (lv' := [(5, .int (nI (k29 + 1))), (0, .ref o_h), (1, .int x0), (2, .int r2), (3, .int v29.1), (4, .int v29.2.1)]) hx hb dX5_pays_74 hl (k := 5) rfl (nI_1 k29) (by decide) rfl (fun ls hl => ?_)
        refine lv_goto (tgt := 29) hx hb dX5_pays_77 (by decide) ?_
        subst hw
        exact ih hJ29 _ _ _ hP hD hS (lv_sub hl [1, 2, 3, 4, 5, 0] rfl)
      · have hw := hw.trans (if_pos c_46)
        refine lv_aload_n hx hb dX5_pays_49 rfl (lv_at hl 0 rfl) ?_
        refine lv_iload hx hb dX5_pays_50 (lv_at hl 5 rfl) ?_
        obtain ⟨r3, er3, hw⟩ := lxb_o hw
        refine hg_ciE (va_runV (As := [.int (nI k29)]) (rest := []) ⟨hx, hb, hml, hown, hts⟩ (c_X5_mayBePaid l dC dI cI cZ cM _ o_h (nI k29) o_players o_bars o_price o_breath o_kind o_looks o_noise o_repeat o_now o_readPlayer o_readBar o_readPlayers o_readBars o_text o_length o_at o_faultAt o_acts o_next o_row o_heard o_heardOf o_heardBars o_heardPlays o_hushWho o_hushSum o_seed o_isKept o_kept v29.2.2 o_heardBars_v o_noise_v o_kind_v o_looks_v o_repeat_v o_heardOf_v o_heardPlays_v np enp (by omega) nb enb (by omega) nh enh (by omega) hJ29 r3 er3) (cwV 1 hts gX5_pays_X5_mayBePaid rfl rfl rfl (by decide +kernel) ⟨Nat.le_of_ble_eq_true rfl, Nat.le_of_ble_eq_true rfl⟩) (hgPreV (C := RX5) (T := TX5) (N := 29) (ci := 5) (q0 := 0) hP hD hK hN [0, 1, 2, 3, 4, 5, 6, 7, 8] rfl rfl rfl rfl) rfl rfl hl.1 rfl (lv_room (Nat.le_of_ble_eq_true rfl)) dX5_pays_52 ⟨Nat.zero_le _, Nat.zero_le _⟩) hP hD hS hA (wr := []) (wf := [(o_h, .inr (5, [.int o_players, .int o_bars, .ref o_price, .ref o_breath, .ref o_kind, .ref o_looks, .ref o_noise, .ref o_repeat, .ref o_now, .ref o_readPlayer, .ref o_readBar, .int o_readPlayers, .int o_readBars, .ref o_text, .int o_length, .int o_at, .int o_faultAt, .int o_acts, .int o_next, .ref o_row, .int o_heard, .ref o_heardOf, .ref o_heardBars, .ref o_heardPlays, .int o_hushWho, .int o_hushSum, .long o_seed, .ref o_isKept, .ref o_kept])), (o_now, .inl (cI, 32, .inl r3.2)), (o_heardBars, .inl (cI, 6, .inl o_heardBars_v)), (o_noise, .inl (cI, 8, .inl o_noise_v)), (o_kind, .inl (cI, 6, .inl o_kind_v)), (o_looks, .inl (cI, 6, .inl o_looks_v)), (o_repeat, .inl (cI, 8, .inl o_repeat_v)), (o_heardOf, .inl (cI, 6, .inl o_heardOf_v)), (o_heardPlays, .inl (cI, 6, .inl o_heardPlays_v))]) [0, 1, 2, 3, 4, 5, 6, 7, 8] [] [0, 1, 2, 3, 4, 5, 6, 7, 8] rfl rfl rfl (by decide) rfl rfl (fun hB4 H locs hP hD hS => ?_)
        refine lv_if_eq (tgt := 74) hx hb dX5_pays_55 (by decide) (fun c_55 => ?_) (fun c_55 => ?_)
        · have hw := hw.trans (if_pos c_55)
          refine lv_iinc (v := nI (k29 + 1)) (lv' := [(5, .int (nI (k29 + 1))), (0, .ref o_h), (1, .int x0), (2, .int r2), (3, .int v29.1), (4, .int v29.2.1)]) hx hb dX5_pays_74 hl (k := 5) rfl (nI_1 k29) (by decide) rfl (fun ls hl => ?_)
          refine lv_goto (tgt := 29) hx hb dX5_pays_77 (by decide) ?_
          subst hw
          exact ih hB4 _ _ _ hP hD hS (lv_sub hl [1, 2, 3, 4, 5, 0] rfl)
        · have hw := hw.trans (if_neg c_55)
          refine lv_iload_n hx hb dX5_pays_58 rfl (lv_at hl 3 rfl) ?_
          obtain ⟨z5, ez5, hw⟩ := lxb_o hw
          refine hg_cut (D := (dC, dI)) (A0 := A) (H0 := s.heap) (ws := [(o_h, .inr (5, [.int o_players, .int o_bars, .ref o_price, .ref o_breath, .ref o_kind, .ref o_looks, .ref o_noise, .ref o_repeat, .ref o_now, .ref o_readPlayer, .ref o_readBar, .int o_readPlayers, .int o_readBars, .ref o_text, .int o_length, .int o_at, .int o_faultAt, .int o_acts, .int o_next, .ref o_row, .int o_heard, .ref o_heardOf, .ref o_heardBars, .ref o_heardPlays, .int o_hushWho, .int o_hushSum, .long o_seed, .ref o_isKept, .ref o_kept])), (o_now, .inl (cI, 32, .inl r3.2)), (o_heardBars, .inl (cI, 6, .inl o_heardBars_v)), (o_noise, .inl (cI, 8, .inl o_noise_v)), (o_kind, .inl (cI, 6, .inl o_kind_v)), (o_looks, .inl (cI, 6, .inl o_looks_v)), (o_repeat, .inl (cI, 8, .inl o_repeat_v)), (o_heardOf, .inl (cI, 6, .inl o_heardOf_v)), (o_heardPlays, .inl (cI, 6, .inl o_heardPlays_v))]) (g := F0 m 69 ls [.int z5]) ?_ (fun hJ => ?_)
          · intro H locs hP hD hS
            refine lv_istore (lv' := [(4, .int z5), (0, .ref o_h), (1, .int x0), (2, .int r2), (3, .int v29.1), (5, .int (nI k29))]) hx hb dX5_pays_69 hl (by decide) rfl (fun ls hl => ?_)
            obtain ⟨y6, ey6, hw⟩ := lxb_o hw
            refine lv_iinc (v := y6) (lv' := [(3, .int y6), (4, .int z5), (0, .ref o_h), (1, .int x0), (2, .int r2), (5, .int (nI k29))]) hx hb dX5_pays_71 hl (k := 4) rfl ((congrArg (fun q : Int32 => v29.1 + q) (by decide : Int32.ofInt (1) = (1 : Int32))).trans ey6.symm) (by decide) rfl (fun ls hl => ?_)
            refine lv_iinc (v := nI (k29 + 1)) (lv' := [(5, .int (nI (k29 + 1))), (3, .int y6), (4, .int z5), (0, .ref o_h), (1, .int x0), (2, .int r2)]) hx hb dX5_pays_74 hl (k := 5) rfl (nI_1 k29) (by decide) rfl (fun ls hl => ?_)
            refine lv_goto (tgt := 29) hx hb dX5_pays_77 (by decide) ?_
            subst hw
            exact ih hB4 _ _ _ hP hD hS (lv_sub hl [3, 4, 5, 1, 2, 0] rfl)
          · refine lv_if_ne (tgt := 67) hx hb dX5_pays_59 (by decide) (fun c_59 => ?_) (fun c_59 => ?_)
            · have ez5 := ez5.trans (if_neg c_59)
              refine lv_iload hx hb dX5_pays_67 (lv_at hl 4 rfl) ?_
              subst ez5
              exact hJ _ _ hP hD hS
            · have ez5 := ez5.trans (if_pos c_59)
              refine lv_iload hx hb dX5_pays_62 (lv_at hl 5 rfl) ?_
              refine lv_goto (tgt := 69) hx hb dX5_pays_64 (by decide) ?_
              subst ez5
              exact hJ _ _ hP hD hS
  · have hu := hu.trans (if_pos c_7)
    refine lv_bipush (v := (-2)) hx hb dX5_pays_10 (by decide) ?_
    subst hu
    exact hg_ri hx hb hr hlk rfl hP hD hS dX5_pays_12

set_option maxHeartbeats 4000000 in
set_option maxRecDepth 100000 in
theorem c_X5_factorial (l : Launch) (dC : Nat → ClassId) (dI : Nat → Nat → Nat) (cI cZ cM : ClassId) (sz : Nat) (x0 : Int32) (hf : (Int32.toInt x0) + 1 < 2147483648) (u : Int32) (hu : u = f_X5_factorial x0) : Met l yX5_factorial wsX5_factorial { frames := 0, cells := 0, slots := 0, locals := 0 } (hgPc [.int x0] (dC, dI) cI cZ cM [] sz) (hgQi (dC, dI) u [] (va_A [] sz)) 0 0 (va_A [] sz) := by
  refine hg_ofW (cc := cX5_factorial) (maxL := 3) (ret := (some .int)) (own := RX5) (fun A => hgQi (dC, dI) u [] A) rfl (by decide) rfl (Nat.le_of_ble_eq_true rfl) ?_
  intro p e s m below meth c ls A hsz hx hb hr hml hown hts hlk hnm hK hN hA hP hD hS hl
  subst hsz
  have hl : lv_has ls 3 [(0, .int x0)] := hl
  unfold f_X5_factorial at hu
  refine lv_iconst (v := 1) hx hb dX5_factorial_0 (by decide) ?_
  refine lv_istore_n (lv' := [(1, .int 1), (0, .int x0)]) hx hb dX5_factorial_1 rfl hl (by decide) rfl (fun ls hl => ?_)
  refine lv_iconst (v := 2) hx hb dX5_factorial_2 (by decide) ?_
  refine lv_istore_n (lv' := [(2, .int 2), (1, .int 1), (0, .int x0)]) hx hb dX5_factorial_3 rfl hl (by decide) rfl (fun ls hl => ?_)
  obtain ⟨r1, er1, hu⟩ := lxb_o hu
  refine hg_loopF (T := Int32) (N := (itn1 2 x0)) (fun v4 => []) (fun k4 v4 => [(0, .int x0), (1, .int v4), (2, .int (nI (k4 + 2)))]) (fun k4 => l_X5_factorial_4 1 k4) ?_ ?_ hP hD hS (lv_sub hl [2, 1, 0] rfl)
  · intro v4 hv H locs ls hP hD hS hl
    obtain rfl : r1 = v4 := er1.trans hv.symm
    have hP : va_P (dC, dI) vwCl [] H := hP
    have hD : va_D A [] := hD
    have hl : lv_has ls 3 [(0, .int x0), (1, .int r1), (2, .int (nI ((itn1 2 x0) + 2)))] := hl
    refine lv_iload_n hx hb dX5_factorial_4 rfl (lv_at hl 2 rfl) ?_
    refine lv_iload_n hx hb dX5_factorial_5 rfl (lv_at hl 0 rfl) ?_
    refine lv_icmp_gt (tgt := 19) hx hb dX5_factorial_6 (by decide) (fun c_6 => ?_) (fun c_6 => absurd (hg_p20 hf) c_6)
    refine lv_iload_n hx hb dX5_factorial_19 rfl (lv_at hl 1 rfl) ?_
    subst hu
    exact hg_ri hx hb hr hlk rfl hP hD hS dX5_factorial_20
  · intro k4 hk v4 hv w hw ih H locs ls hP hD hS hl
    have hw : w = b_X5_factorial_4 k4 v4 := by rw [hw, hv]; rfl
    unfold b_X5_factorial_4 at hw
    have hP : va_P (dC, dI) vwCl [] H := hP
    have hD : va_D A [] := hD
    have hl : lv_has ls 3 [(0, .int x0), (1, .int v4), (2, .int (nI (k4 + 2)))] := hl
    refine lv_iload_n hx hb dX5_factorial_4 rfl (lv_at hl 2 rfl) ?_
    refine lv_iload_n hx hb dX5_factorial_5 rfl (lv_at hl 0 rfl) ?_
    refine lv_icmp_gt (tgt := 19) hx hb dX5_factorial_6 (by decide) (fun c_6 => absurd c_6 (hg_p21 hk)) (fun c_6 => ?_)
    refine lv_iload_n hx hb dX5_factorial_9 rfl (lv_at hl 1 rfl) ?_
    refine lv_iload_n hx hb dX5_factorial_10 rfl (lv_at hl 2 rfl) ?_
    refine lv_imul hx hb dX5_factorial_11 ?_
    refine lv_istore_n (lv' := [(1, .int (v4 * nI (k4 + 2))), (0, .int x0), (2, .int (nI (k4 + 2)))]) hx hb dX5_factorial_12 rfl hl (by decide) rfl (fun ls hl => ?_)
    refine lv_iinc (v := nI ((k4 + 2) + 1)) (lv' := [(2, .int (nI ((k4 + 2) + 1))), (1, .int (v4 * nI (k4 + 2))), (0, .int x0)]) hx hb dX5_factorial_13 hl (k := 2) rfl (nI_1 (k4 + 2)) (by decide) rfl (fun ls hl => ?_)
    refine lv_goto (tgt := 4) hx hb dX5_factorial_16 (by decide) ?_
    subst hw
    exact ih _ _ _ hP hD hS (lv_sub hl [2, 1, 0] rfl)

set_option maxHeartbeats 4000000 in
set_option maxRecDepth 100000 in
theorem c_X5_common (l : Launch) (dC : Nat → ClassId) (dI : Nat → Nat → Nat) (cI cZ cM : ClassId) (sz : Nat) (x0 : Int32) (x1 : Int32) (hc0 : -2147483648 < (Int32.toInt x0)) (hc1 : 0 ≤ (Int32.toInt x1)) (u : Int32) (hu : u = f_X5_common x0 x1) : Met l yX5_common wsX5_common { frames := 0, cells := 0, slots := 0, locals := 0 } (hgPc [.int x0, .int x1] (dC, dI) cI cZ cM [] sz) (hgQi (dC, dI) u [] (va_A [] sz)) 0 0 (va_A [] sz) := by
  refine hg_ofW (cc := cX5_common) (maxL := 5) (ret := (some .int)) (own := RX5) (fun A => hgQi (dC, dI) u [] A) rfl (by decide) rfl (Nat.le_of_ble_eq_true rfl) ?_
  intro p e s m below meth c ls A hsz hx hb hr hml hown hts hlk hnm hK hN hA hP hD hS hl
  subst hsz
  have hl : lv_has ls 5 [(0, .int x0), (1, .int x1)] := hl
  unfold f_X5_common at hu
  refine lv_iload_n hx hb dX5_common_0 rfl (lv_at hl 0 rfl) ?_
  obtain ⟨z1, ez1, hu⟩ := lxb_o hu
  refine hg_cut (D := (dC, dI)) (A0 := A) (H0 := s.heap) (ws := []) (g := F0 m 10 ls [.int z1]) ?_ (fun hJ => ?_)
  · intro H locs hP hD hS
    refine lv_istore_n (lv' := [(2, .int z1), (0, .int x0), (1, .int x1)]) hx hb dX5_common_10 rfl hl (by decide) rfl (fun ls hl => ?_)
    refine lv_iload_n hx hb dX5_common_11 rfl (lv_at hl 2 rfl) ?_
    refine lv_istore_n (lv' := [(3, .int x1), (2, .int z1), (0, .int x0), (1, .int x1)]) hx hb dX5_common_12 rfl hl (by decide) rfl (fun ls hl => ?_)
    refine hg_loopMJ (T := Int32 × Int32) (N := ((Int32.toInt x1).toNat + 1)) (fun v13 => (∃ a, a < 2147483648 ∧ v13.1 = nI a) ∧ (∃ a, a < 2147483648 ∧ v13.2 = nI a)) (fun v13 => (Int32.toInt v13.2).toNat) (fun v13 => []) (fun _ v13 => [(0, .int x0), (1, .int x1), (2, .int v13.1), (3, .int v13.2)]) (fun n13 v13 => l_X5_common_13 n13 v13) (z1, x1) ⟨(mAbs hc0 ez1), (mPos hc1)⟩ (Nat.lt_succ_self _) hu ?_ hP hD hS (lv_sub hl [2, 3, 1, 0] rfl)
    · intro n13 v13 hJ13 hm hu ih H locs ls hP hD hS hl
      rw [l_X5_common_13] at hu
      have hP : va_P (dC, dI) vwCl [] H := hP
      have hD : va_D A [] := hD
      have hl : lv_has ls 5 [(0, .int x0), (1, .int x1), (2, .int v13.1), (3, .int v13.2)] := hl
      obtain ⟨ja, hja, eja⟩ := hJ13.1
      obtain ⟨jb, hjb, ejb⟩ := hJ13.2
      refine lv_iload_n hx hb dX5_common_13 rfl (lv_at hl 3 rfl) ?_
      refine lv_if_eq (tgt := 30) hx hb dX5_common_14 (by decide) (fun c_14 => ?_) (fun c_14 => ?_)
      · have hu := hu.trans (if_pos c_14)
        refine lv_iload_n hx hb dX5_common_30 rfl (lv_at hl 2 rfl) ?_
        subst hu
        exact hg_ri hx hb hr hlk rfl hP hD hS dX5_common_31
      · have hu := hu.trans (if_neg c_14)
        refine lv_iload_n hx hb dX5_common_17 rfl (lv_at hl 2 rfl) ?_
        refine lv_iload_n hx hb dX5_common_18 rfl (lv_at hl 3 rfl) ?_
        refine lv_irem hx hb dX5_common_19 c_14 ?_
        obtain ⟨y2, ey2, hu⟩ := lxb_o hu
        refine lv_topi (fun z ez => ?_)
        obtain rfl : y2 = z := ey2.trans ez.symm
        refine lv_istore (lv' := [(4, .int y2), (0, .int x0), (1, .int x1), (2, .int v13.1), (3, .int v13.2)]) hx hb dX5_common_20 hl (by decide) rfl (fun ls hl => ?_)
        refine lv_iload_n hx hb dX5_common_22 rfl (lv_at hl 4 rfl) ?_
        refine lv_istore_n (lv' := [(2, .int v13.2), (4, .int y2), (0, .int x0), (1, .int x1), (3, .int v13.2)]) hx hb dX5_common_23 rfl hl (by decide) rfl (fun ls hl => ?_)
        refine lv_iload hx hb dX5_common_24 (lv_at hl 1 rfl) ?_
        refine lv_istore_n (lv' := [(3, .int y2), (2, .int v13.2), (4, .int y2), (0, .int x0), (1, .int x1)]) hx hb dX5_common_26 rfl hl (by decide) rfl (fun ls hl => ?_)
        refine lv_goto (tgt := 13) hx hb dX5_common_27 (by decide) ?_
        exact ih _ ⟨⟨jb, hjb, ejb⟩, (mRem eja hja ejb hjb c_14 ey2)⟩ (mLess eja hja ejb hjb c_14 ey2 hm) hu _ _ _ hP hD hS (lv_sub hl [3, 4, 1, 0] rfl)
  · refine lv_if_ge (tgt := 9) hx hb dX5_common_1 (by decide) (fun c_1 => ?_) (fun c_1 => ?_)
    · have ez1 := ez1.trans (if_pos c_1)
      refine lv_iload_n hx hb dX5_common_9 rfl (lv_at hl 0 rfl) ?_
      subst ez1
      exact hJ _ _ hP hD hS
    · have ez1 := ez1.trans (if_neg c_1)
      refine lv_iload_n hx hb dX5_common_4 rfl (lv_at hl 0 rfl) ?_
      refine lv_ineg hx hb dX5_common_5 ?_
      refine lv_goto (tgt := 10) hx hb dX5_common_6 (by decide) ?_
      subst ez1
      exact hJ _ _ hP hD hS

set_option maxHeartbeats 4000000 in
set_option maxRecDepth 100000 in
theorem c_X5_noiseBy (l : Launch) (dC : Nat → ClassId) (dI : Nat → Nat → Nat) (cI cZ cM : ClassId) (sz : Nat) (o_h : Nat) (x0 : Int32) (o_players : Int32) (o_bars : Int32) (o_price : Nat) (o_breath : Nat) (o_kind : Nat) (o_looks : Nat) (o_noise : Nat) (o_repeat : Nat) (o_now : Nat) (o_readPlayer : Nat) (o_readBar : Nat) (o_readPlayers : Int32) (o_readBars : Int32) (o_text : Nat) (o_length : Int32) (o_at : Int32) (o_faultAt : Int32) (o_acts : Int32) (o_next : Int32) (o_row : Nat) (o_heard : Int32) (o_heardOf : Nat) (o_heardBars : Nat) (o_heardPlays : Nat) (o_hushWho : Int32) (o_hushSum : Int32) (o_seed : Int64) (o_isKept : Nat) (o_kept : Nat) (o_now_v : Nat → Int32) (o_noise_v : Nat → Int32) (o_kind_v : Nat → Int32) (o_looks_v : Nat → Int32) (o_repeat_v : Nat → Int32) (np : Nat) (enp : o_players = nI np) (hnp : np ≤ 6) (nb : Nat) (enb : o_bars = nI nb) (hnb : nb ≤ 8) (hB : mB o_now_v) (u : Int32 × (Nat → Int32)) (hu : u = f_X5_noiseBy x0 o_players o_bars o_now_v o_noise_v o_kind_v o_looks_v o_repeat_v) : Met l yX5_noiseBy wsX5_noiseBy { frames := 6, cells := 0, slots := 0, locals := 140 } (hgPc [.ref o_h, .int x0] (dC, dI) cI cZ cM [(o_h, .inr (5, [.int o_players, .int o_bars, .ref o_price, .ref o_breath, .ref o_kind, .ref o_looks, .ref o_noise, .ref o_repeat, .ref o_now, .ref o_readPlayer, .ref o_readBar, .int o_readPlayers, .int o_readBars, .ref o_text, .int o_length, .int o_at, .int o_faultAt, .int o_acts, .int o_next, .ref o_row, .int o_heard, .ref o_heardOf, .ref o_heardBars, .ref o_heardPlays, .int o_hushWho, .int o_hushSum, .long o_seed, .ref o_isKept, .ref o_kept])), (o_now, .inl (cI, 32, .inl o_now_v)), (o_noise, .inl (cI, 8, .inl o_noise_v)), (o_kind, .inl (cI, 6, .inl o_kind_v)), (o_looks, .inl (cI, 6, .inl o_looks_v)), (o_repeat, .inl (cI, 8, .inl o_repeat_v))] sz) (hgQiE (dC, dI) u.1 [(o_h, .inr (5, [.int o_players, .int o_bars, .ref o_price, .ref o_breath, .ref o_kind, .ref o_looks, .ref o_noise, .ref o_repeat, .ref o_now, .ref o_readPlayer, .ref o_readBar, .int o_readPlayers, .int o_readBars, .ref o_text, .int o_length, .int o_at, .int o_faultAt, .int o_acts, .int o_next, .ref o_row, .int o_heard, .ref o_heardOf, .ref o_heardBars, .ref o_heardPlays, .int o_hushWho, .int o_hushSum, .long o_seed, .ref o_isKept, .ref o_kept])), (o_now, .inl (cI, 32, .inl u.2)), (o_noise, .inl (cI, 8, .inl o_noise_v)), (o_kind, .inl (cI, 6, .inl o_kind_v)), (o_looks, .inl (cI, 6, .inl o_looks_v)), (o_repeat, .inl (cI, 8, .inl o_repeat_v))] (mB u.2) (va_A [(o_h, .inr (5, [.int o_players, .int o_bars, .ref o_price, .ref o_breath, .ref o_kind, .ref o_looks, .ref o_noise, .ref o_repeat, .ref o_now, .ref o_readPlayer, .ref o_readBar, .int o_readPlayers, .int o_readBars, .ref o_text, .int o_length, .int o_at, .int o_faultAt, .int o_acts, .int o_next, .ref o_row, .int o_heard, .ref o_heardOf, .ref o_heardBars, .ref o_heardPlays, .int o_hushWho, .int o_hushSum, .long o_seed, .ref o_isKept, .ref o_kept])), (o_now, .inl (cI, 32, .inl o_now_v)), (o_noise, .inl (cI, 8, .inl o_noise_v)), (o_kind, .inl (cI, 6, .inl o_kind_v)), (o_looks, .inl (cI, 6, .inl o_looks_v)), (o_repeat, .inl (cI, 8, .inl o_repeat_v))] sz)) 0 0 (va_A [(o_h, .inr (5, [.int o_players, .int o_bars, .ref o_price, .ref o_breath, .ref o_kind, .ref o_looks, .ref o_noise, .ref o_repeat, .ref o_now, .ref o_readPlayer, .ref o_readBar, .int o_readPlayers, .int o_readBars, .ref o_text, .int o_length, .int o_at, .int o_faultAt, .int o_acts, .int o_next, .ref o_row, .int o_heard, .ref o_heardOf, .ref o_heardBars, .ref o_heardPlays, .int o_hushWho, .int o_hushSum, .long o_seed, .ref o_isKept, .ref o_kept])), (o_now, .inl (cI, 32, .inl o_now_v)), (o_noise, .inl (cI, 8, .inl o_noise_v)), (o_kind, .inl (cI, 6, .inl o_kind_v)), (o_looks, .inl (cI, 6, .inl o_looks_v)), (o_repeat, .inl (cI, 8, .inl o_repeat_v))] sz) := by
  refine hg_ofW (cc := cX5_noiseBy) (maxL := 2) (ret := (some .int)) (own := RX5) (fun A => hgQiE (dC, dI) u.1 [(o_h, .inr (5, [.int o_players, .int o_bars, .ref o_price, .ref o_breath, .ref o_kind, .ref o_looks, .ref o_noise, .ref o_repeat, .ref o_now, .ref o_readPlayer, .ref o_readBar, .int o_readPlayers, .int o_readBars, .ref o_text, .int o_length, .int o_at, .int o_faultAt, .int o_acts, .int o_next, .ref o_row, .int o_heard, .ref o_heardOf, .ref o_heardBars, .ref o_heardPlays, .int o_hushWho, .int o_hushSum, .long o_seed, .ref o_isKept, .ref o_kept])), (o_now, .inl (cI, 32, .inl u.2)), (o_noise, .inl (cI, 8, .inl o_noise_v)), (o_kind, .inl (cI, 6, .inl o_kind_v)), (o_looks, .inl (cI, 6, .inl o_looks_v)), (o_repeat, .inl (cI, 8, .inl o_repeat_v))] (mB u.2) A) rfl (by decide) rfl (Nat.le_of_ble_eq_true rfl) ?_
  intro p e s m below meth c ls A hsz hx hb hr hml hown hts hlk hnm hK hN hA hP hD hS hl
  subst hsz
  have hl : lv_has ls 2 [(0, .ref o_h), (1, .int x0)] := hl
  unfold f_X5_noiseBy at hu
  refine lv_aload_n hx hb dX5_noiseBy_0 rfl (lv_at hl 0 rfl) ?_
  obtain ⟨r1, er1, hu⟩ := lxb_o hu
  refine hg_cvE (va_runV (As := []) (rest := []) ⟨hx, hb, hml, hown, hts⟩ (c_X5_layTrial l dC dI cI cZ cM _ o_h o_players o_bars o_price o_breath o_kind o_looks o_noise o_repeat o_now o_readPlayer o_readBar o_readPlayers o_readBars o_text o_length o_at o_faultAt o_acts o_next o_row o_heard o_heardOf o_heardBars o_heardPlays o_hushWho o_hushSum o_seed o_isKept o_kept o_now_v np enp (by omega) nb enb (by omega) hB r1 er1) (cwV 0 hts gX5_noiseBy_X5_layTrial rfl rfl rfl (by decide +kernel) ⟨Nat.le_of_ble_eq_true rfl, Nat.le_of_ble_eq_true rfl⟩) (hgPreV (C := RX5) (T := TX5) (N := 29) (ci := 5) (q0 := 0) hP hD hK hN [0, 1] rfl rfl rfl rfl) rfl rfl hl.1 rfl (lv_room (Nat.le_of_ble_eq_true rfl)) dX5_noiseBy_1 ⟨Nat.zero_le _, Nat.zero_le _⟩) hP hD hS hA (wr := [(o_noise, .inl (cI, 8, .inl o_noise_v)), (o_kind, .inl (cI, 6, .inl o_kind_v)), (o_looks, .inl (cI, 6, .inl o_looks_v)), (o_repeat, .inl (cI, 8, .inl o_repeat_v))]) (wf := [(o_h, .inr (5, [.int o_players, .int o_bars, .ref o_price, .ref o_breath, .ref o_kind, .ref o_looks, .ref o_noise, .ref o_repeat, .ref o_now, .ref o_readPlayer, .ref o_readBar, .int o_readPlayers, .int o_readBars, .ref o_text, .int o_length, .int o_at, .int o_faultAt, .int o_acts, .int o_next, .ref o_row, .int o_heard, .ref o_heardOf, .ref o_heardBars, .ref o_heardPlays, .int o_hushWho, .int o_hushSum, .long o_seed, .ref o_isKept, .ref o_kept])), (o_now, .inl (cI, 32, .inl r1)), (o_noise, .inl (cI, 8, .inl o_noise_v)), (o_kind, .inl (cI, 6, .inl o_kind_v)), (o_looks, .inl (cI, 6, .inl o_looks_v)), (o_repeat, .inl (cI, 8, .inl o_repeat_v))]) [0, 1] [2, 3, 4, 5] [4, 5, 0, 1, 2, 3] rfl rfl rfl (by decide) rfl rfl (fun hB2 H locs hP hD hS => ?_)
  refine lv_aload_n hx hb dX5_noiseBy_4 rfl (lv_at hl 0 rfl) ?_
  refine lv_iload_n hx hb dX5_noiseBy_5 rfl (lv_at hl 1 rfl) ?_
  refine lv_iconst (v := (-1)) hx hb dX5_noiseBy_6 (by decide) ?_
  refine lv_ixor hx hb dX5_noiseBy_7 ?_
  refine lv_iconst (v := 1) hx hb dX5_noiseBy_8 (by decide) ?_
  obtain ⟨r3, er3, hu⟩ := lxb_o hu
  refine hg_cvE (va_runV (As := [.int (x0 ^^^ (-1)), .int 1]) (rest := []) ⟨hx, hb, hml, hown, hts⟩ (c_X5_makeSome l dC dI cI cZ cM _ o_h (x0 ^^^ (-1)) 1 o_players o_bars o_price o_breath o_kind o_looks o_noise o_repeat o_now o_readPlayer o_readBar o_readPlayers o_readBars o_text o_length o_at o_faultAt o_acts o_next o_row o_heard o_heardOf o_heardBars o_heardPlays o_hushWho o_hushSum o_seed o_isKept o_kept r1 np enp (by omega) nb enb (by omega) hB2 r3 er3) (cwV 2 hts gX5_noiseBy_X5_makeSome rfl rfl rfl (by decide +kernel) ⟨Nat.le_of_ble_eq_true rfl, Nat.le_of_ble_eq_true rfl⟩) (hgPreV (C := RX5) (T := TX5) (N := 29) (ci := 5) (q0 := 0) hP hD hK hN [0, 1] rfl rfl rfl rfl) rfl rfl hl.1 rfl (lv_room (Nat.le_of_ble_eq_true rfl)) dX5_noiseBy_9 ⟨Nat.zero_le _, Nat.zero_le _⟩) hP hD hS hA (wr := [(o_noise, .inl (cI, 8, .inl o_noise_v)), (o_kind, .inl (cI, 6, .inl o_kind_v)), (o_looks, .inl (cI, 6, .inl o_looks_v)), (o_repeat, .inl (cI, 8, .inl o_repeat_v))]) (wf := [(o_h, .inr (5, [.int o_players, .int o_bars, .ref o_price, .ref o_breath, .ref o_kind, .ref o_looks, .ref o_noise, .ref o_repeat, .ref o_now, .ref o_readPlayer, .ref o_readBar, .int o_readPlayers, .int o_readBars, .ref o_text, .int o_length, .int o_at, .int o_faultAt, .int o_acts, .int o_next, .ref o_row, .int o_heard, .ref o_heardOf, .ref o_heardBars, .ref o_heardPlays, .int o_hushWho, .int o_hushSum, .long o_seed, .ref o_isKept, .ref o_kept])), (o_now, .inl (cI, 32, .inl r3)), (o_noise, .inl (cI, 8, .inl o_noise_v)), (o_kind, .inl (cI, 6, .inl o_kind_v)), (o_looks, .inl (cI, 6, .inl o_looks_v)), (o_repeat, .inl (cI, 8, .inl o_repeat_v))]) [0, 1] [2, 3, 4, 5] [4, 5, 0, 1, 2, 3] rfl rfl rfl (by decide) rfl rfl (fun hB4 H locs hP hD hS => ?_)
  refine lv_aload_n hx hb dX5_noiseBy_12 rfl (lv_at hl 0 rfl) ?_
  refine lv_bipush (v := 6) hx hb dX5_noiseBy_13 (by decide) ?_
  obtain ⟨r5, er5, hu⟩ := lxb_o hu
  refine hg_ciE (va_runV (As := [.int 6]) (rest := []) ⟨hx, hb, hml, hown, hts⟩ (c_X5_goOn l dC dI cI cZ cM _ o_h 6 o_players o_bars o_price o_breath o_kind o_looks o_noise o_repeat o_now o_readPlayer o_readBar o_readPlayers o_readBars o_text o_length o_at o_faultAt o_acts o_next o_row o_heard o_heardOf o_heardBars o_heardPlays o_hushWho o_hushSum o_seed o_isKept o_kept r3 o_noise_v o_kind_v o_looks_v o_repeat_v np enp (by omega) nb enb (by omega) hB4 r5 er5) (cwV 1 hts gX5_noiseBy_X5_goOn rfl rfl rfl (by decide +kernel) ⟨Nat.le_of_ble_eq_true rfl, Nat.le_of_ble_eq_true rfl⟩) (hgPreV (C := RX5) (T := TX5) (N := 29) (ci := 5) (q0 := 0) hP hD hK hN [0, 1, 2, 3, 4, 5] rfl rfl rfl rfl) rfl rfl hl.1 rfl (lv_room (Nat.le_of_ble_eq_true rfl)) dX5_noiseBy_15 ⟨Nat.zero_le _, Nat.zero_le _⟩) hP hD hS hA (wr := []) (wf := [(o_h, .inr (5, [.int o_players, .int o_bars, .ref o_price, .ref o_breath, .ref o_kind, .ref o_looks, .ref o_noise, .ref o_repeat, .ref o_now, .ref o_readPlayer, .ref o_readBar, .int o_readPlayers, .int o_readBars, .ref o_text, .int o_length, .int o_at, .int o_faultAt, .int o_acts, .int o_next, .ref o_row, .int o_heard, .ref o_heardOf, .ref o_heardBars, .ref o_heardPlays, .int o_hushWho, .int o_hushSum, .long o_seed, .ref o_isKept, .ref o_kept])), (o_now, .inl (cI, 32, .inl r5.2)), (o_noise, .inl (cI, 8, .inl o_noise_v)), (o_kind, .inl (cI, 6, .inl o_kind_v)), (o_looks, .inl (cI, 6, .inl o_looks_v)), (o_repeat, .inl (cI, 8, .inl o_repeat_v))]) [0, 1, 2, 3, 4, 5] [] [0, 1, 2, 3, 4, 5] rfl rfl rfl (by decide) rfl rfl (fun hB6 H locs hP hD hS => ?_)
  subst hu
  exact hg_riE hx hb hr hlk rfl hB6 hP hD hS dX5_noiseBy_18

set_option maxHeartbeats 4000000 in
set_option maxRecDepth 100000 in
theorem c_X5_share (l : Launch) (dC : Nat → ClassId) (dI : Nat → Nat → Nat) (cI cZ cM : ClassId) (sz : Nat) (o_h : Nat) (x0 : Int32) (x1 : Int32) (o_players : Int32) (o_bars : Int32) (o_price : Nat) (o_breath : Nat) (o_kind : Nat) (o_looks : Nat) (o_noise : Nat) (o_repeat : Nat) (o_now : Nat) (o_readPlayer : Nat) (o_readBar : Nat) (o_readPlayers : Int32) (o_readBars : Int32) (o_text : Nat) (o_length : Int32) (o_at : Int32) (o_faultAt : Int32) (o_acts : Int32) (o_next : Int32) (o_row : Nat) (o_heard : Int32) (o_heardOf : Nat) (o_heardBars : Nat) (o_heardPlays : Nat) (o_hushWho : Int32) (o_hushSum : Int32) (o_seed : Int64) (o_isKept : Nat) (o_kept : Nat) (o_now_v : Nat → Int32) (o_noise_v : Nat → Int32) (o_kind_v : Nat → Int32) (o_looks_v : Nat → Int32) (o_repeat_v : Nat → Int32) (np : Nat) (enp : o_players = nI np) (hnp : np ≤ 6) (nb : Nat) (enb : o_bars = nI nb) (hnb : nb ≤ 8) (hB : mB o_now_v) (hsum : ∀ v, v = l_X5_share_15 x0 o_players o_bars o_noise_v o_kind_v o_looks_v o_repeat_v (0, o_now_v) (itn 0 (1 <<< (o_players &&& 31))) → -2147483648 < (Int32.toInt v.1)) (u : Int32 × (Nat → Int32)) (hu : u = f_X5_share x0 x1 o_players o_bars o_now_v o_noise_v o_kind_v o_looks_v o_repeat_v) : Met l yX5_share wsX5_share { frames := 7, cells := 0, slots := 0, locals := 161 } (hgPc [.ref o_h, .int x0, .int x1] (dC, dI) cI cZ cM [(o_h, .inr (5, [.int o_players, .int o_bars, .ref o_price, .ref o_breath, .ref o_kind, .ref o_looks, .ref o_noise, .ref o_repeat, .ref o_now, .ref o_readPlayer, .ref o_readBar, .int o_readPlayers, .int o_readBars, .ref o_text, .int o_length, .int o_at, .int o_faultAt, .int o_acts, .int o_next, .ref o_row, .int o_heard, .ref o_heardOf, .ref o_heardBars, .ref o_heardPlays, .int o_hushWho, .int o_hushSum, .long o_seed, .ref o_isKept, .ref o_kept])), (o_now, .inl (cI, 32, .inl o_now_v)), (o_noise, .inl (cI, 8, .inl o_noise_v)), (o_kind, .inl (cI, 6, .inl o_kind_v)), (o_looks, .inl (cI, 6, .inl o_looks_v)), (o_repeat, .inl (cI, 8, .inl o_repeat_v))] sz) (hgQi (dC, dI) u.1 [(o_h, .inr (5, [.int o_players, .int o_bars, .ref o_price, .ref o_breath, .ref o_kind, .ref o_looks, .ref o_noise, .ref o_repeat, .ref o_now, .ref o_readPlayer, .ref o_readBar, .int o_readPlayers, .int o_readBars, .ref o_text, .int o_length, .int o_at, .int o_faultAt, .int o_acts, .int o_next, .ref o_row, .int o_heard, .ref o_heardOf, .ref o_heardBars, .ref o_heardPlays, .int o_hushWho, .int o_hushSum, .long o_seed, .ref o_isKept, .ref o_kept])), (o_now, .inl (cI, 32, .inl u.2)), (o_noise, .inl (cI, 8, .inl o_noise_v)), (o_kind, .inl (cI, 6, .inl o_kind_v)), (o_looks, .inl (cI, 6, .inl o_looks_v)), (o_repeat, .inl (cI, 8, .inl o_repeat_v))] (va_A [(o_h, .inr (5, [.int o_players, .int o_bars, .ref o_price, .ref o_breath, .ref o_kind, .ref o_looks, .ref o_noise, .ref o_repeat, .ref o_now, .ref o_readPlayer, .ref o_readBar, .int o_readPlayers, .int o_readBars, .ref o_text, .int o_length, .int o_at, .int o_faultAt, .int o_acts, .int o_next, .ref o_row, .int o_heard, .ref o_heardOf, .ref o_heardBars, .ref o_heardPlays, .int o_hushWho, .int o_hushSum, .long o_seed, .ref o_isKept, .ref o_kept])), (o_now, .inl (cI, 32, .inl o_now_v)), (o_noise, .inl (cI, 8, .inl o_noise_v)), (o_kind, .inl (cI, 6, .inl o_kind_v)), (o_looks, .inl (cI, 6, .inl o_looks_v)), (o_repeat, .inl (cI, 8, .inl o_repeat_v))] sz)) 0 0 (va_A [(o_h, .inr (5, [.int o_players, .int o_bars, .ref o_price, .ref o_breath, .ref o_kind, .ref o_looks, .ref o_noise, .ref o_repeat, .ref o_now, .ref o_readPlayer, .ref o_readBar, .int o_readPlayers, .int o_readBars, .ref o_text, .int o_length, .int o_at, .int o_faultAt, .int o_acts, .int o_next, .ref o_row, .int o_heard, .ref o_heardOf, .ref o_heardBars, .ref o_heardPlays, .int o_hushWho, .int o_hushSum, .long o_seed, .ref o_isKept, .ref o_kept])), (o_now, .inl (cI, 32, .inl o_now_v)), (o_noise, .inl (cI, 8, .inl o_noise_v)), (o_kind, .inl (cI, 6, .inl o_kind_v)), (o_looks, .inl (cI, 6, .inl o_looks_v)), (o_repeat, .inl (cI, 8, .inl o_repeat_v))] sz) := by
  refine hg_ofW (cc := cX5_share) (maxL := 6) (ret := (some .int)) (own := RX5) (fun A => hgQi (dC, dI) u.1 [(o_h, .inr (5, [.int o_players, .int o_bars, .ref o_price, .ref o_breath, .ref o_kind, .ref o_looks, .ref o_noise, .ref o_repeat, .ref o_now, .ref o_readPlayer, .ref o_readBar, .int o_readPlayers, .int o_readBars, .ref o_text, .int o_length, .int o_at, .int o_faultAt, .int o_acts, .int o_next, .ref o_row, .int o_heard, .ref o_heardOf, .ref o_heardBars, .ref o_heardPlays, .int o_hushWho, .int o_hushSum, .long o_seed, .ref o_isKept, .ref o_kept])), (o_now, .inl (cI, 32, .inl u.2)), (o_noise, .inl (cI, 8, .inl o_noise_v)), (o_kind, .inl (cI, 6, .inl o_kind_v)), (o_looks, .inl (cI, 6, .inl o_looks_v)), (o_repeat, .inl (cI, 8, .inl o_repeat_v))] A) rfl (by decide) rfl (Nat.le_of_ble_eq_true rfl) ?_
  intro p e s m below meth c ls A hsz hx hb hr hml hown hts hlk hnm hK hN hA hP hD hS hl
  subst hsz
  have w1 := hts (.fieldLink RX5 93 "HatGoesRoundModel" "players" "I") (List.mem_of_getElem? (i := 1) rfl)
  have hinX5 : ∀ w ∈ u_ws RX5 TX5 29, w ∈ wsX5_share := fun _ h => List.mem_cons_of_mem _ (List.mem_append_right _ h)
  have hl : lv_has ls 6 [(0, .ref o_h), (1, .int x0), (2, .int x1)] := hl
  unfold f_X5_share at hu
  refine lv_aload_n hx hb dX5_share_0 rfl (lv_at hl 0 rfl) ?_
  refine lv_iload_n hx hb dX5_share_1 rfl (lv_at hl 1 rfl) ?_
  obtain ⟨r1, er1, hu⟩ := lxb_o hu
  refine hg_ci (va_runV (As := [.int x0]) (rest := []) ⟨hx, hb, hml, hown, hts⟩ (c_X5_isPlayer l dC dI cI cZ cM _ o_h x0 o_players o_bars o_price o_breath o_kind o_looks o_noise o_repeat o_now o_readPlayer o_readBar o_readPlayers o_readBars o_text o_length o_at o_faultAt o_acts o_next o_row o_heard o_heardOf o_heardBars o_heardPlays o_hushWho o_hushSum o_seed o_isKept o_kept np enp (by omega) nb enb (by omega) r1 er1) (cwV 1 hts gX5_share_X5_isPlayer rfl rfl rfl (by decide +kernel) ⟨Nat.le_of_ble_eq_true rfl, Nat.le_of_ble_eq_true rfl⟩) (hgPreV (C := RX5) (T := TX5) (N := 29) (ci := 5) (q0 := 0) hP hD hK hN [0] rfl rfl rfl rfl) rfl rfl hl.1 rfl (lv_room (Nat.le_of_ble_eq_true rfl)) dX5_share_2 ⟨Nat.zero_le _, Nat.zero_le _⟩) hP hD hS hA (wr := [(o_now, .inl (cI, 32, .inl o_now_v)), (o_noise, .inl (cI, 8, .inl o_noise_v)), (o_kind, .inl (cI, 6, .inl o_kind_v)), (o_looks, .inl (cI, 6, .inl o_looks_v)), (o_repeat, .inl (cI, 8, .inl o_repeat_v))]) (wf := [(o_h, .inr (5, [.int o_players, .int o_bars, .ref o_price, .ref o_breath, .ref o_kind, .ref o_looks, .ref o_noise, .ref o_repeat, .ref o_now, .ref o_readPlayer, .ref o_readBar, .int o_readPlayers, .int o_readBars, .ref o_text, .int o_length, .int o_at, .int o_faultAt, .int o_acts, .int o_next, .ref o_row, .int o_heard, .ref o_heardOf, .ref o_heardBars, .ref o_heardPlays, .int o_hushWho, .int o_hushSum, .long o_seed, .ref o_isKept, .ref o_kept])), (o_now, .inl (cI, 32, .inl o_now_v)), (o_noise, .inl (cI, 8, .inl o_noise_v)), (o_kind, .inl (cI, 6, .inl o_kind_v)), (o_looks, .inl (cI, 6, .inl o_looks_v)), (o_repeat, .inl (cI, 8, .inl o_repeat_v))]) [0] [1, 2, 3, 4, 5] [5, 0, 1, 2, 3, 4] rfl rfl rfl (by decide) rfl rfl (fun H locs hP hD hS => ?_)
  refine lv_if_ne (tgt := 10) hx hb dX5_share_5 (by decide) (fun c_5 => ?_) (fun c_5 => ?_)
  · have hu := hu.trans (if_neg c_5)
    refine lv_iconst (v := 0) hx hb dX5_share_10 (by decide) ?_
    refine lv_istore_n (lv' := [(3, .int 0), (0, .ref o_h), (1, .int x0), (2, .int x1)]) hx hb dX5_share_11 rfl hl (by decide) rfl (fun ls hl => ?_)
    refine lv_iconst (v := 0) hx hb dX5_share_12 (by decide) ?_
    refine lv_istore (lv' := [(4, .int 0), (3, .int 0), (0, .ref o_h), (1, .int x0), (2, .int x1)]) hx hb dX5_share_13 hl (by decide) rfl (fun ls hl => ?_)
    obtain ⟨r12, er12, hu⟩ := lxb_o hu
    refine hg_loopFJ (T := Int32 × (Nat → Int32)) (N := (itn 0 (1 <<< (o_players &&& 31)))) (fun v15 => (mB v15.2)) (fun v15 => [(o_h, .inr (5, [.int o_players, .int o_bars, .ref o_price, .ref o_breath, .ref o_kind, .ref o_looks, .ref o_noise, .ref o_repeat, .ref o_now, .ref o_readPlayer, .ref o_readBar, .int o_readPlayers, .int o_readBars, .ref o_text, .int o_length, .int o_at, .int o_faultAt, .int o_acts, .int o_next, .ref o_row, .int o_heard, .ref o_heardOf, .ref o_heardBars, .ref o_heardPlays, .int o_hushWho, .int o_hushSum, .long o_seed, .ref o_isKept, .ref o_kept])), (o_now, .inl (cI, 32, .inl v15.2)), (o_noise, .inl (cI, 8, .inl o_noise_v)), (o_kind, .inl (cI, 6, .inl o_kind_v)), (o_looks, .inl (cI, 6, .inl o_looks_v)), (o_repeat, .inl (cI, 8, .inl o_repeat_v))]) (fun k15 v15 => [(0, .ref o_h), (1, .int x0), (2, .int x1), (3, .int v15.1), (4, .int (nI k15))]) (fun k15 => l_X5_share_15 x0 o_players o_bars o_noise_v o_kind_v o_looks_v o_repeat_v (0, o_now_v) k15) hB ?_ ?_ hP hD hS (lv_sub hl [2, 3, 4, 1, 0] rfl)
    · intro v15 hJ15 hv H locs ls hP hD hS hl
      obtain rfl : r12 = v15 := er12.trans hv.symm
      have hP : va_P (dC, dI) vwCl [(o_h, .inr (5, [.int o_players, .int o_bars, .ref o_price, .ref o_breath, .ref o_kind, .ref o_looks, .ref o_noise, .ref o_repeat, .ref o_now, .ref o_readPlayer, .ref o_readBar, .int o_readPlayers, .int o_readBars, .ref o_text, .int o_length, .int o_at, .int o_faultAt, .int o_acts, .int o_next, .ref o_row, .int o_heard, .ref o_heardOf, .ref o_heardBars, .ref o_heardPlays, .int o_hushWho, .int o_hushSum, .long o_seed, .ref o_isKept, .ref o_kept])), (o_now, .inl (cI, 32, .inl r12.2)), (o_noise, .inl (cI, 8, .inl o_noise_v)), (o_kind, .inl (cI, 6, .inl o_kind_v)), (o_looks, .inl (cI, 6, .inl o_looks_v)), (o_repeat, .inl (cI, 8, .inl o_repeat_v))] H := hP
      have hD : va_D A [(o_h, .inr (5, [.int o_players, .int o_bars, .ref o_price, .ref o_breath, .ref o_kind, .ref o_looks, .ref o_noise, .ref o_repeat, .ref o_now, .ref o_readPlayer, .ref o_readBar, .int o_readPlayers, .int o_readBars, .ref o_text, .int o_length, .int o_at, .int o_faultAt, .int o_acts, .int o_next, .ref o_row, .int o_heard, .ref o_heardOf, .ref o_heardBars, .ref o_heardPlays, .int o_hushWho, .int o_hushSum, .long o_seed, .ref o_isKept, .ref o_kept])), (o_now, .inl (cI, 32, .inl r12.2)), (o_noise, .inl (cI, 8, .inl o_noise_v)), (o_kind, .inl (cI, 6, .inl o_kind_v)), (o_looks, .inl (cI, 6, .inl o_looks_v)), (o_repeat, .inl (cI, 8, .inl o_repeat_v))] := hD
      have hl : lv_has ls 6 [(0, .ref o_h), (1, .int x0), (2, .int x1), (3, .int r12.1), (4, .int (nI (itn 0 (1 <<< (o_players &&& 31)))))] := hl
      refine lv_iload hx hb dX5_share_15 (lv_at hl 4 rfl) ?_
      refine lv_iconst (v := 1) hx hb dX5_share_17 (by decide) ?_
      refine lv_aload_n hx hb dX5_share_18 rfl (lv_at hl 0 rfl) ?_
      refine va_get (D := (dC, dI)) (ci := 5) (v := .int o_players) (C := RX5) (T := TX5) (N := 29) hx hb hts hinX5 hown hK hP 0 rfl rfl 0 (by decide) w1 (fun _ h9 => h9) rfl dX5_share_19 ?_
      refine lv_ishl hx hb dX5_share_22 ?_
      refine lv_icmp_ge (tgt := 90) hx hb dX5_share_23 (by decide) (fun c_23 => ?_) (fun c_23 => absurd hg_lo0 c_23)
      refine lv_iload_n hx hb dX5_share_90 rfl (lv_at hl 3 rfl) ?_
      refine lv_aload_n hx hb dX5_share_91 rfl (lv_at hl 0 rfl) ?_
      refine va_get (D := (dC, dI)) (ci := 5) (v := .int o_players) (C := RX5) (T := TX5) (N := 29) hx hb hts hinX5 hown hK hP 0 rfl rfl 0 (by decide) w1 (fun _ h9 => h9) rfl dX5_share_92 ?_
      obtain ⟨r13, er13, hu⟩ := lxb_o hu
      refine hg_ci (va_runS (As := [.int o_players]) (rest := [.int r12.1]) ⟨hx, hb, hml, hown, hts⟩ (c_X5_factorial l dC dI cI cZ cM _ o_players (mPlHf enp hnp) r13 er13) (va_cwS 1 hts gX5_share_X5_factorial rfl rfl rfl (by decide +kernel) ⟨Nat.le_of_ble_eq_true rfl, Nat.le_of_ble_eq_true rfl⟩) (hgPreS hP hD hK hN [] rfl rfl) rfl rfl hl.1 rfl (lv_room (Nat.le_of_ble_eq_true rfl)) dX5_share_95 ⟨Nat.zero_le _, Nat.zero_le _⟩) hP hD hS hA (wr := [(o_h, .inr (5, [.int o_players, .int o_bars, .ref o_price, .ref o_breath, .ref o_kind, .ref o_looks, .ref o_noise, .ref o_repeat, .ref o_now, .ref o_readPlayer, .ref o_readBar, .int o_readPlayers, .int o_readBars, .ref o_text, .int o_length, .int o_at, .int o_faultAt, .int o_acts, .int o_next, .ref o_row, .int o_heard, .ref o_heardOf, .ref o_heardBars, .ref o_heardPlays, .int o_hushWho, .int o_hushSum, .long o_seed, .ref o_isKept, .ref o_kept])), (o_now, .inl (cI, 32, .inl r12.2)), (o_noise, .inl (cI, 8, .inl o_noise_v)), (o_kind, .inl (cI, 6, .inl o_kind_v)), (o_looks, .inl (cI, 6, .inl o_looks_v)), (o_repeat, .inl (cI, 8, .inl o_repeat_v))]) (wf := [(o_h, .inr (5, [.int o_players, .int o_bars, .ref o_price, .ref o_breath, .ref o_kind, .ref o_looks, .ref o_noise, .ref o_repeat, .ref o_now, .ref o_readPlayer, .ref o_readBar, .int o_readPlayers, .int o_readBars, .ref o_text, .int o_length, .int o_at, .int o_faultAt, .int o_acts, .int o_next, .ref o_row, .int o_heard, .ref o_heardOf, .ref o_heardBars, .ref o_heardPlays, .int o_hushWho, .int o_hushSum, .long o_seed, .ref o_isKept, .ref o_kept])), (o_now, .inl (cI, 32, .inl r12.2)), (o_noise, .inl (cI, 8, .inl o_noise_v)), (o_kind, .inl (cI, 6, .inl o_kind_v)), (o_looks, .inl (cI, 6, .inl o_looks_v)), (o_repeat, .inl (cI, 8, .inl o_repeat_v))]) [] [0, 1, 2, 3, 4, 5] [0, 1, 2, 3, 4, 5] rfl rfl rfl (by decide) rfl rfl (fun H locs hP hD hS => ?_)
      obtain ⟨r14, er14, hu⟩ := lxb_o hu
      refine hg_ci (va_runS (As := [.int r12.1, .int r13]) (rest := []) ⟨hx, hb, hml, hown, hts⟩ (c_X5_common l dC dI cI cZ cM _ r12.1 r13 (hsum _ er12) (Int.le_of_lt (mFacPos enp hnp er13)) r14 er14) (va_cwS 2 hts gX5_share_X5_common rfl rfl rfl (by decide +kernel) ⟨Nat.le_of_ble_eq_true rfl, Nat.le_of_ble_eq_true rfl⟩) (hgPreS hP hD hK hN [] rfl rfl) rfl rfl hl.1 rfl (lv_room (Nat.le_of_ble_eq_true rfl)) dX5_share_98 ⟨Nat.zero_le _, Nat.zero_le _⟩) hP hD hS hA (wr := [(o_h, .inr (5, [.int o_players, .int o_bars, .ref o_price, .ref o_breath, .ref o_kind, .ref o_looks, .ref o_noise, .ref o_repeat, .ref o_now, .ref o_readPlayer, .ref o_readBar, .int o_readPlayers, .int o_readBars, .ref o_text, .int o_length, .int o_at, .int o_faultAt, .int o_acts, .int o_next, .ref o_row, .int o_heard, .ref o_heardOf, .ref o_heardBars, .ref o_heardPlays, .int o_hushWho, .int o_hushSum, .long o_seed, .ref o_isKept, .ref o_kept])), (o_now, .inl (cI, 32, .inl r12.2)), (o_noise, .inl (cI, 8, .inl o_noise_v)), (o_kind, .inl (cI, 6, .inl o_kind_v)), (o_looks, .inl (cI, 6, .inl o_looks_v)), (o_repeat, .inl (cI, 8, .inl o_repeat_v))]) (wf := [(o_h, .inr (5, [.int o_players, .int o_bars, .ref o_price, .ref o_breath, .ref o_kind, .ref o_looks, .ref o_noise, .ref o_repeat, .ref o_now, .ref o_readPlayer, .ref o_readBar, .int o_readPlayers, .int o_readBars, .ref o_text, .int o_length, .int o_at, .int o_faultAt, .int o_acts, .int o_next, .ref o_row, .int o_heard, .ref o_heardOf, .ref o_heardBars, .ref o_heardPlays, .int o_hushWho, .int o_hushSum, .long o_seed, .ref o_isKept, .ref o_kept])), (o_now, .inl (cI, 32, .inl r12.2)), (o_noise, .inl (cI, 8, .inl o_noise_v)), (o_kind, .inl (cI, 6, .inl o_kind_v)), (o_looks, .inl (cI, 6, .inl o_looks_v)), (o_repeat, .inl (cI, 8, .inl o_repeat_v))]) [] [0, 1, 2, 3, 4, 5] [0, 1, 2, 3, 4, 5] rfl rfl rfl (by decide) rfl rfl (fun H locs hP hD hS => ?_)
      refine lv_istore (lv' := [(4, .int r14), (0, .ref o_h), (1, .int x0), (2, .int x1), (3, .int r12.1)]) hx hb dX5_share_101 hl (by decide) rfl (fun ls hl => ?_)
      refine lv_iload_n hx hb dX5_share_103 rfl (lv_at hl 3 rfl) ?_
      refine lv_if_eq (tgt := 114) hx hb dX5_share_104 (by decide) (fun c_104 => ?_) (fun c_104 => ?_)
      · have hu := hu.trans (if_pos c_104)
        refine lv_aload_n hx hb dX5_share_114 rfl (lv_at hl 1 rfl) ?_
        refine va_get (D := (dC, dI)) (ci := 5) (v := .int o_players) (C := RX5) (T := TX5) (N := 29) hx hb hts hinX5 hown hK hP 0 rfl rfl 0 (by decide) w1 (fun _ h9 => h9) rfl dX5_share_115 ?_
        obtain ⟨r15, er15, hu⟩ := lxb_o hu
        refine hg_ci (va_runS (As := [.int o_players]) (rest := []) ⟨hx, hb, hml, hown, hts⟩ (c_X5_factorial l dC dI cI cZ cM _ o_players (mPlHf enp hnp) r15 er15) (va_cwS 1 hts gX5_share_X5_factorial rfl rfl rfl (by decide +kernel) ⟨Nat.le_of_ble_eq_true rfl, Nat.le_of_ble_eq_true rfl⟩) (hgPreS hP hD hK hN [] rfl rfl) rfl rfl hl.1 rfl (lv_room (Nat.le_of_ble_eq_true rfl)) dX5_share_118 ⟨Nat.zero_le _, Nat.zero_le _⟩) hP hD hS hA (wr := [(o_h, .inr (5, [.int o_players, .int o_bars, .ref o_price, .ref o_breath, .ref o_kind, .ref o_looks, .ref o_noise, .ref o_repeat, .ref o_now, .ref o_readPlayer, .ref o_readBar, .int o_readPlayers, .int o_readBars, .ref o_text, .int o_length, .int o_at, .int o_faultAt, .int o_acts, .int o_next, .ref o_row, .int o_heard, .ref o_heardOf, .ref o_heardBars, .ref o_heardPlays, .int o_hushWho, .int o_hushSum, .long o_seed, .ref o_isKept, .ref o_kept])), (o_now, .inl (cI, 32, .inl r12.2)), (o_noise, .inl (cI, 8, .inl o_noise_v)), (o_kind, .inl (cI, 6, .inl o_kind_v)), (o_looks, .inl (cI, 6, .inl o_looks_v)), (o_repeat, .inl (cI, 8, .inl o_repeat_v))]) (wf := [(o_h, .inr (5, [.int o_players, .int o_bars, .ref o_price, .ref o_breath, .ref o_kind, .ref o_looks, .ref o_noise, .ref o_repeat, .ref o_now, .ref o_readPlayer, .ref o_readBar, .int o_readPlayers, .int o_readBars, .ref o_text, .int o_length, .int o_at, .int o_faultAt, .int o_acts, .int o_next, .ref o_row, .int o_heard, .ref o_heardOf, .ref o_heardBars, .ref o_heardPlays, .int o_hushWho, .int o_hushSum, .long o_seed, .ref o_isKept, .ref o_kept])), (o_now, .inl (cI, 32, .inl r12.2)), (o_noise, .inl (cI, 8, .inl o_noise_v)), (o_kind, .inl (cI, 6, .inl o_kind_v)), (o_looks, .inl (cI, 6, .inl o_looks_v)), (o_repeat, .inl (cI, 8, .inl o_repeat_v))]) [] [0, 1, 2, 3, 4, 5] [0, 1, 2, 3, 4, 5] rfl rfl rfl (by decide) rfl rfl (fun H locs hP hD hS => ?_)
        refine lv_iload hx hb dX5_share_121 (lv_at hl 0 rfl) ?_
        refine lv_idiv hx hb dX5_share_123 (mCommonNe er14 (hsum _ er12) (mFacPos enp hnp er13)) ?_
        subst hu
        exact hg_ri hx hb hr hlk rfl hP hD hS dX5_share_124
      · have hu := hu.trans (if_neg c_104)
        refine lv_iload_n hx hb dX5_share_107 rfl (lv_at hl 4 rfl) ?_
        refine lv_iload hx hb dX5_share_108 (lv_at hl 0 rfl) ?_
        refine lv_idiv hx hb dX5_share_110 (mCommonNe er14 (hsum _ er12) (mFacPos enp hnp er13)) ?_
        refine lv_goto (tgt := 124) hx hb dX5_share_111 (by decide) ?_
        subst hu
        exact hg_ri hx hb hr hlk rfl hP hD hS dX5_share_124
    · intro k15 hk v15 hJ15 hv w hw ih H locs ls hP hD hS hl
      have hw : w = b_X5_share_15 x0 o_players o_bars o_noise_v o_kind_v o_looks_v o_repeat_v k15 v15 := by rw [hw, hv]; rfl
      unfold b_X5_share_15 at hw
      have hP : va_P (dC, dI) vwCl [(o_h, .inr (5, [.int o_players, .int o_bars, .ref o_price, .ref o_breath, .ref o_kind, .ref o_looks, .ref o_noise, .ref o_repeat, .ref o_now, .ref o_readPlayer, .ref o_readBar, .int o_readPlayers, .int o_readBars, .ref o_text, .int o_length, .int o_at, .int o_faultAt, .int o_acts, .int o_next, .ref o_row, .int o_heard, .ref o_heardOf, .ref o_heardBars, .ref o_heardPlays, .int o_hushWho, .int o_hushSum, .long o_seed, .ref o_isKept, .ref o_kept])), (o_now, .inl (cI, 32, .inl v15.2)), (o_noise, .inl (cI, 8, .inl o_noise_v)), (o_kind, .inl (cI, 6, .inl o_kind_v)), (o_looks, .inl (cI, 6, .inl o_looks_v)), (o_repeat, .inl (cI, 8, .inl o_repeat_v))] H := hP
      have hD : va_D A [(o_h, .inr (5, [.int o_players, .int o_bars, .ref o_price, .ref o_breath, .ref o_kind, .ref o_looks, .ref o_noise, .ref o_repeat, .ref o_now, .ref o_readPlayer, .ref o_readBar, .int o_readPlayers, .int o_readBars, .ref o_text, .int o_length, .int o_at, .int o_faultAt, .int o_acts, .int o_next, .ref o_row, .int o_heard, .ref o_heardOf, .ref o_heardBars, .ref o_heardPlays, .int o_hushWho, .int o_hushSum, .long o_seed, .ref o_isKept, .ref o_kept])), (o_now, .inl (cI, 32, .inl v15.2)), (o_noise, .inl (cI, 8, .inl o_noise_v)), (o_kind, .inl (cI, 6, .inl o_kind_v)), (o_looks, .inl (cI, 6, .inl o_looks_v)), (o_repeat, .inl (cI, 8, .inl o_repeat_v))] := hD
      have hl : lv_has ls 6 [(0, .ref o_h), (1, .int x0), (2, .int x1), (3, .int v15.1), (4, .int (nI k15))] := hl
      refine lv_iload hx hb dX5_share_15 (lv_at hl 4 rfl) ?_
      refine lv_iconst (v := 1) hx hb dX5_share_17 (by decide) ?_
      refine lv_aload_n hx hb dX5_share_18 rfl (lv_at hl 0 rfl) ?_
      refine va_get (D := (dC, dI)) (ci := 5) (v := .int o_players) (C := RX5) (T := TX5) (N := 29) hx hb hts hinX5 hown hK hP 0 rfl rfl 0 (by decide) w1 (fun _ h9 => h9) rfl dX5_share_19 ?_
      refine lv_ishl hx hb dX5_share_22 ?_
      refine lv_icmp_ge (tgt := 90) hx hb dX5_share_23 (by decide) (fun c_23 => absurd c_23 (hg_lo1 hk)) (fun c_23 => ?_)
      refine lv_iload hx hb dX5_share_26 (lv_at hl 4 rfl) ?_
      refine lv_iload_n hx hb dX5_share_28 rfl (lv_at hl 1 rfl) ?_
      obtain ⟨r2, er2, hw⟩ := lxb_o hw
      refine hg_ci (va_runS (As := [.int (nI k15), .int x0]) (rest := []) ⟨hx, hb, hml, hown, hts⟩ (c_X5_has l dC dI cI cZ cM _ (nI k15) x0 r2 er2) (va_cwS 2 hts gX5_share_X5_has rfl rfl rfl (by decide +kernel) ⟨Nat.le_of_ble_eq_true rfl, Nat.le_of_ble_eq_true rfl⟩) (hgPreS hP hD hK hN [] rfl rfl) rfl rfl hl.1 rfl (lv_room (Nat.le_of_ble_eq_true rfl)) dX5_share_29 ⟨Nat.zero_le _, Nat.zero_le _⟩) hP hD hS hA (wr := [(o_h, .inr (5, [.int o_players, .int o_bars, .ref o_price, .ref o_breath, .ref o_kind, .ref o_looks, .ref o_noise, .ref o_repeat, .ref o_now, .ref o_readPlayer, .ref o_readBar, .int o_readPlayers, .int o_readBars, .ref o_text, .int o_length, .int o_at, .int o_faultAt, .int o_acts, .int o_next, .ref o_row, .int o_heard, .ref o_heardOf, .ref o_heardBars, .ref o_heardPlays, .int o_hushWho, .int o_hushSum, .long o_seed, .ref o_isKept, .ref o_kept])), (o_now, .inl (cI, 32, .inl v15.2)), (o_noise, .inl (cI, 8, .inl o_noise_v)), (o_kind, .inl (cI, 6, .inl o_kind_v)), (o_looks, .inl (cI, 6, .inl o_looks_v)), (o_repeat, .inl (cI, 8, .inl o_repeat_v))]) (wf := [(o_h, .inr (5, [.int o_players, .int o_bars, .ref o_price, .ref o_breath, .ref o_kind, .ref o_looks, .ref o_noise, .ref o_repeat, .ref o_now, .ref o_readPlayer, .ref o_readBar, .int o_readPlayers, .int o_readBars, .ref o_text, .int o_length, .int o_at, .int o_faultAt, .int o_acts, .int o_next, .ref o_row, .int o_heard, .ref o_heardOf, .ref o_heardBars, .ref o_heardPlays, .int o_hushWho, .int o_hushSum, .long o_seed, .ref o_isKept, .ref o_kept])), (o_now, .inl (cI, 32, .inl v15.2)), (o_noise, .inl (cI, 8, .inl o_noise_v)), (o_kind, .inl (cI, 6, .inl o_kind_v)), (o_looks, .inl (cI, 6, .inl o_looks_v)), (o_repeat, .inl (cI, 8, .inl o_repeat_v))]) [] [0, 1, 2, 3, 4, 5] [0, 1, 2, 3, 4, 5] rfl rfl rfl (by decide) rfl rfl (fun H locs hP hD hS => ?_)
      refine lv_if_ne (tgt := 84) hx hb dX5_share_32 (by decide) (fun c_32 => ?_) (fun c_32 => ?_)
      · have hw := hw.trans (if_neg c_32)
        refine lv_iinc (v := nI (k15 + 1)) (lv' := [(4, .int (nI (k15 + 1))), (0, .ref o_h), (1, .int x0), (2, .int x1), (3, .int v15.1)]) hx hb dX5_share_84 hl (k := 4) rfl (nI_1 k15) (by decide) rfl (fun ls hl => ?_)
        refine lv_goto (tgt := 15) hx hb dX5_share_87 (by decide) ?_
        subst hw
        exact ih hJ15 _ _ _ hP hD hS (lv_sub hl [1, 2, 3, 4, 0] rfl)
      · have hw := hw.trans (if_pos c_32)
        refine lv_iload hx hb dX5_share_35 (lv_at hl 4 rfl) ?_
        obtain ⟨r3, er3, hw⟩ := lxb_o hw
        refine hg_ci (va_runS (As := [.int (nI k15)]) (rest := []) ⟨hx, hb, hml, hown, hts⟩ (c_X5_ones l dC dI cI cZ cM _ (nI k15) r3 er3) (va_cwS 1 hts gX5_share_X5_ones rfl rfl rfl (by decide +kernel) ⟨Nat.le_of_ble_eq_true rfl, Nat.le_of_ble_eq_true rfl⟩) (hgPreS hP hD hK hN [] rfl rfl) rfl rfl hl.1 rfl (lv_room (Nat.le_of_ble_eq_true rfl)) dX5_share_37 ⟨Nat.zero_le _, Nat.zero_le _⟩) hP hD hS hA (wr := [(o_h, .inr (5, [.int o_players, .int o_bars, .ref o_price, .ref o_breath, .ref o_kind, .ref o_looks, .ref o_noise, .ref o_repeat, .ref o_now, .ref o_readPlayer, .ref o_readBar, .int o_readPlayers, .int o_readBars, .ref o_text, .int o_length, .int o_at, .int o_faultAt, .int o_acts, .int o_next, .ref o_row, .int o_heard, .ref o_heardOf, .ref o_heardBars, .ref o_heardPlays, .int o_hushWho, .int o_hushSum, .long o_seed, .ref o_isKept, .ref o_kept])), (o_now, .inl (cI, 32, .inl v15.2)), (o_noise, .inl (cI, 8, .inl o_noise_v)), (o_kind, .inl (cI, 6, .inl o_kind_v)), (o_looks, .inl (cI, 6, .inl o_looks_v)), (o_repeat, .inl (cI, 8, .inl o_repeat_v))]) (wf := [(o_h, .inr (5, [.int o_players, .int o_bars, .ref o_price, .ref o_breath, .ref o_kind, .ref o_looks, .ref o_noise, .ref o_repeat, .ref o_now, .ref o_readPlayer, .ref o_readBar, .int o_readPlayers, .int o_readBars, .ref o_text, .int o_length, .int o_at, .int o_faultAt, .int o_acts, .int o_next, .ref o_row, .int o_heard, .ref o_heardOf, .ref o_heardBars, .ref o_heardPlays, .int o_hushWho, .int o_hushSum, .long o_seed, .ref o_isKept, .ref o_kept])), (o_now, .inl (cI, 32, .inl v15.2)), (o_noise, .inl (cI, 8, .inl o_noise_v)), (o_kind, .inl (cI, 6, .inl o_kind_v)), (o_looks, .inl (cI, 6, .inl o_looks_v)), (o_repeat, .inl (cI, 8, .inl o_repeat_v))]) [] [0, 1, 2, 3, 4, 5] [0, 1, 2, 3, 4, 5] rfl rfl rfl (by decide) rfl rfl (fun H locs hP hD hS => ?_)
        obtain ⟨r4, er4, hw⟩ := lxb_o hw
        refine hg_ci (va_runS (As := [.int r3]) (rest := []) ⟨hx, hb, hml, hown, hts⟩ (c_X5_factorial l dC dI cI cZ cM _ r3 (mOnesHf er3) r4 er4) (va_cwS 1 hts gX5_share_X5_factorial rfl rfl rfl (by decide +kernel) ⟨Nat.le_of_ble_eq_true rfl, Nat.le_of_ble_eq_true rfl⟩) (hgPreS hP hD hK hN [] rfl rfl) rfl rfl hl.1 rfl (lv_room (Nat.le_of_ble_eq_true rfl)) dX5_share_40 ⟨Nat.zero_le _, Nat.zero_le _⟩) hP hD hS hA (wr := [(o_h, .inr (5, [.int o_players, .int o_bars, .ref o_price, .ref o_breath, .ref o_kind, .ref o_looks, .ref o_noise, .ref o_repeat, .ref o_now, .ref o_readPlayer, .ref o_readBar, .int o_readPlayers, .int o_readBars, .ref o_text, .int o_length, .int o_at, .int o_faultAt, .int o_acts, .int o_next, .ref o_row, .int o_heard, .ref o_heardOf, .ref o_heardBars, .ref o_heardPlays, .int o_hushWho, .int o_hushSum, .long o_seed, .ref o_isKept, .ref o_kept])), (o_now, .inl (cI, 32, .inl v15.2)), (o_noise, .inl (cI, 8, .inl o_noise_v)), (o_kind, .inl (cI, 6, .inl o_kind_v)), (o_looks, .inl (cI, 6, .inl o_looks_v)), (o_repeat, .inl (cI, 8, .inl o_repeat_v))]) (wf := [(o_h, .inr (5, [.int o_players, .int o_bars, .ref o_price, .ref o_breath, .ref o_kind, .ref o_looks, .ref o_noise, .ref o_repeat, .ref o_now, .ref o_readPlayer, .ref o_readBar, .int o_readPlayers, .int o_readBars, .ref o_text, .int o_length, .int o_at, .int o_faultAt, .int o_acts, .int o_next, .ref o_row, .int o_heard, .ref o_heardOf, .ref o_heardBars, .ref o_heardPlays, .int o_hushWho, .int o_hushSum, .long o_seed, .ref o_isKept, .ref o_kept])), (o_now, .inl (cI, 32, .inl v15.2)), (o_noise, .inl (cI, 8, .inl o_noise_v)), (o_kind, .inl (cI, 6, .inl o_kind_v)), (o_looks, .inl (cI, 6, .inl o_looks_v)), (o_repeat, .inl (cI, 8, .inl o_repeat_v))]) [] [0, 1, 2, 3, 4, 5] [0, 1, 2, 3, 4, 5] rfl rfl rfl (by decide) rfl rfl (fun H locs hP hD hS => ?_)
        refine lv_aload_n hx hb dX5_share_43 rfl (lv_at hl 0 rfl) ?_
        refine va_get (D := (dC, dI)) (ci := 5) (v := .int o_players) (C := RX5) (T := TX5) (N := 29) hx hb hts hinX5 hown hK hP 0 rfl rfl 0 (by decide) w1 (fun _ h9 => h9) rfl dX5_share_44 ?_
        refine lv_iconst (v := 1) hx hb dX5_share_47 (by decide) ?_
        refine lv_isub hx hb dX5_share_48 ?_
        refine lv_iload hx hb dX5_share_49 (lv_at hl 4 rfl) ?_
        obtain ⟨r5, er5, hw⟩ := lxb_o hw
        refine hg_ci (va_runS (As := [.int (nI k15)]) (rest := [.int (o_players - 1), .int r4]) ⟨hx, hb, hml, hown, hts⟩ (c_X5_ones l dC dI cI cZ cM _ (nI k15) r5 er5) (va_cwS 1 hts gX5_share_X5_ones rfl rfl rfl (by decide +kernel) ⟨Nat.le_of_ble_eq_true rfl, Nat.le_of_ble_eq_true rfl⟩) (hgPreS hP hD hK hN [] rfl rfl) rfl rfl hl.1 rfl (lv_room (Nat.le_of_ble_eq_true rfl)) dX5_share_51 ⟨Nat.zero_le _, Nat.zero_le _⟩) hP hD hS hA (wr := [(o_h, .inr (5, [.int o_players, .int o_bars, .ref o_price, .ref o_breath, .ref o_kind, .ref o_looks, .ref o_noise, .ref o_repeat, .ref o_now, .ref o_readPlayer, .ref o_readBar, .int o_readPlayers, .int o_readBars, .ref o_text, .int o_length, .int o_at, .int o_faultAt, .int o_acts, .int o_next, .ref o_row, .int o_heard, .ref o_heardOf, .ref o_heardBars, .ref o_heardPlays, .int o_hushWho, .int o_hushSum, .long o_seed, .ref o_isKept, .ref o_kept])), (o_now, .inl (cI, 32, .inl v15.2)), (o_noise, .inl (cI, 8, .inl o_noise_v)), (o_kind, .inl (cI, 6, .inl o_kind_v)), (o_looks, .inl (cI, 6, .inl o_looks_v)), (o_repeat, .inl (cI, 8, .inl o_repeat_v))]) (wf := [(o_h, .inr (5, [.int o_players, .int o_bars, .ref o_price, .ref o_breath, .ref o_kind, .ref o_looks, .ref o_noise, .ref o_repeat, .ref o_now, .ref o_readPlayer, .ref o_readBar, .int o_readPlayers, .int o_readBars, .ref o_text, .int o_length, .int o_at, .int o_faultAt, .int o_acts, .int o_next, .ref o_row, .int o_heard, .ref o_heardOf, .ref o_heardBars, .ref o_heardPlays, .int o_hushWho, .int o_hushSum, .long o_seed, .ref o_isKept, .ref o_kept])), (o_now, .inl (cI, 32, .inl v15.2)), (o_noise, .inl (cI, 8, .inl o_noise_v)), (o_kind, .inl (cI, 6, .inl o_kind_v)), (o_looks, .inl (cI, 6, .inl o_looks_v)), (o_repeat, .inl (cI, 8, .inl o_repeat_v))]) [] [0, 1, 2, 3, 4, 5] [0, 1, 2, 3, 4, 5] rfl rfl rfl (by decide) rfl rfl (fun H locs hP hD hS => ?_)
        refine lv_isub hx hb dX5_share_54 ?_
        obtain ⟨r6, er6, hw⟩ := lxb_o hw
        refine hg_ci (va_runS (As := [.int ((o_players - 1) - r5)]) (rest := [.int r4]) ⟨hx, hb, hml, hown, hts⟩ (c_X5_factorial l dC dI cI cZ cM _ ((o_players - 1) - r5) (mOnesHf2 enp hnp er5) r6 er6) (va_cwS 1 hts gX5_share_X5_factorial rfl rfl rfl (by decide +kernel) ⟨Nat.le_of_ble_eq_true rfl, Nat.le_of_ble_eq_true rfl⟩) (hgPreS hP hD hK hN [] rfl rfl) rfl rfl hl.1 rfl (lv_room (Nat.le_of_ble_eq_true rfl)) dX5_share_55 ⟨Nat.zero_le _, Nat.zero_le _⟩) hP hD hS hA (wr := [(o_h, .inr (5, [.int o_players, .int o_bars, .ref o_price, .ref o_breath, .ref o_kind, .ref o_looks, .ref o_noise, .ref o_repeat, .ref o_now, .ref o_readPlayer, .ref o_readBar, .int o_readPlayers, .int o_readBars, .ref o_text, .int o_length, .int o_at, .int o_faultAt, .int o_acts, .int o_next, .ref o_row, .int o_heard, .ref o_heardOf, .ref o_heardBars, .ref o_heardPlays, .int o_hushWho, .int o_hushSum, .long o_seed, .ref o_isKept, .ref o_kept])), (o_now, .inl (cI, 32, .inl v15.2)), (o_noise, .inl (cI, 8, .inl o_noise_v)), (o_kind, .inl (cI, 6, .inl o_kind_v)), (o_looks, .inl (cI, 6, .inl o_looks_v)), (o_repeat, .inl (cI, 8, .inl o_repeat_v))]) (wf := [(o_h, .inr (5, [.int o_players, .int o_bars, .ref o_price, .ref o_breath, .ref o_kind, .ref o_looks, .ref o_noise, .ref o_repeat, .ref o_now, .ref o_readPlayer, .ref o_readBar, .int o_readPlayers, .int o_readBars, .ref o_text, .int o_length, .int o_at, .int o_faultAt, .int o_acts, .int o_next, .ref o_row, .int o_heard, .ref o_heardOf, .ref o_heardBars, .ref o_heardPlays, .int o_hushWho, .int o_hushSum, .long o_seed, .ref o_isKept, .ref o_kept])), (o_now, .inl (cI, 32, .inl v15.2)), (o_noise, .inl (cI, 8, .inl o_noise_v)), (o_kind, .inl (cI, 6, .inl o_kind_v)), (o_looks, .inl (cI, 6, .inl o_looks_v)), (o_repeat, .inl (cI, 8, .inl o_repeat_v))]) [] [0, 1, 2, 3, 4, 5] [0, 1, 2, 3, 4, 5] rfl rfl rfl (by decide) rfl rfl (fun H locs hP hD hS => ?_)
        refine lv_imul hx hb dX5_share_58 ?_
        refine lv_istore (lv' := [(5, .int (r4 * r6)), (0, .ref o_h), (1, .int x0), (2, .int x1), (3, .int v15.1), (4, .int (nI k15))]) hx hb dX5_share_59 hl (by decide) rfl (fun ls hl => ?_)
        refine lv_iload_n hx hb dX5_share_61 rfl (lv_at hl 4 rfl) ?_
        refine lv_iload hx hb dX5_share_62 (lv_at hl 0 rfl) ?_
        refine lv_aload_n hx hb dX5_share_64 rfl (lv_at hl 1 rfl) ?_
        refine lv_iload hx hb dX5_share_65 (lv_at hl 5 rfl) ?_
        refine lv_iconst (v := 1) hx hb dX5_share_67 (by decide) ?_
        refine lv_iload_n hx hb dX5_share_68 rfl (lv_at hl 2 rfl) ?_
        refine lv_ishl hx hb dX5_share_69 ?_
        refine lv_ior hx hb dX5_share_70 ?_
        obtain ⟨r7, er7, hw⟩ := lxb_o hw
        refine hg_ciE (va_runV (As := [.int (nI k15 ||| (1 <<< (x0 &&& 31)))]) (rest := [.int (r4 * r6), .int v15.1]) ⟨hx, hb, hml, hown, hts⟩ (c_X5_noiseBy l dC dI cI cZ cM _ o_h (nI k15 ||| (1 <<< (x0 &&& 31))) o_players o_bars o_price o_breath o_kind o_looks o_noise o_repeat o_now o_readPlayer o_readBar o_readPlayers o_readBars o_text o_length o_at o_faultAt o_acts o_next o_row o_heard o_heardOf o_heardBars o_heardPlays o_hushWho o_hushSum o_seed o_isKept o_kept v15.2 o_noise_v o_kind_v o_looks_v o_repeat_v np enp (by omega) nb enb (by omega) hJ15 r7 er7) (cwV 1 hts gX5_share_X5_noiseBy rfl rfl rfl (by decide +kernel) ⟨Nat.le_of_ble_eq_true rfl, Nat.le_of_ble_eq_true rfl⟩) (hgPreV (C := RX5) (T := TX5) (N := 29) (ci := 5) (q0 := 0) hP hD hK hN [0, 1, 2, 3, 4, 5] rfl rfl rfl rfl) rfl rfl hl.1 rfl (lv_room (Nat.le_of_ble_eq_true rfl)) dX5_share_71 ⟨Nat.zero_le _, Nat.zero_le _⟩) hP hD hS hA (wr := []) (wf := [(o_h, .inr (5, [.int o_players, .int o_bars, .ref o_price, .ref o_breath, .ref o_kind, .ref o_looks, .ref o_noise, .ref o_repeat, .ref o_now, .ref o_readPlayer, .ref o_readBar, .int o_readPlayers, .int o_readBars, .ref o_text, .int o_length, .int o_at, .int o_faultAt, .int o_acts, .int o_next, .ref o_row, .int o_heard, .ref o_heardOf, .ref o_heardBars, .ref o_heardPlays, .int o_hushWho, .int o_hushSum, .long o_seed, .ref o_isKept, .ref o_kept])), (o_now, .inl (cI, 32, .inl r7.2)), (o_noise, .inl (cI, 8, .inl o_noise_v)), (o_kind, .inl (cI, 6, .inl o_kind_v)), (o_looks, .inl (cI, 6, .inl o_looks_v)), (o_repeat, .inl (cI, 8, .inl o_repeat_v))]) [0, 1, 2, 3, 4, 5] [] [0, 1, 2, 3, 4, 5] rfl rfl rfl (by decide) rfl rfl (fun hB8 H locs hP hD hS => ?_)
        refine lv_aload_n hx hb dX5_share_74 rfl (lv_at hl 1 rfl) ?_
        refine lv_iload hx hb dX5_share_75 (lv_at hl 5 rfl) ?_
        obtain ⟨r9, er9, hw⟩ := lxb_o hw
        refine hg_ciE (va_runV (As := [.int (nI k15)]) (rest := [.int r7.1, .int (r4 * r6), .int v15.1]) ⟨hx, hb, hml, hown, hts⟩ (c_X5_noiseBy l dC dI cI cZ cM _ o_h (nI k15) o_players o_bars o_price o_breath o_kind o_looks o_noise o_repeat o_now o_readPlayer o_readBar o_readPlayers o_readBars o_text o_length o_at o_faultAt o_acts o_next o_row o_heard o_heardOf o_heardBars o_heardPlays o_hushWho o_hushSum o_seed o_isKept o_kept r7.2 o_noise_v o_kind_v o_looks_v o_repeat_v np enp (by omega) nb enb (by omega) hB8 r9 er9) (cwV 1 hts gX5_share_X5_noiseBy rfl rfl rfl (by decide +kernel) ⟨Nat.le_of_ble_eq_true rfl, Nat.le_of_ble_eq_true rfl⟩) (hgPreV (C := RX5) (T := TX5) (N := 29) (ci := 5) (q0 := 0) hP hD hK hN [0, 1, 2, 3, 4, 5] rfl rfl rfl rfl) rfl rfl hl.1 rfl (lv_room (Nat.le_of_ble_eq_true rfl)) dX5_share_77 ⟨Nat.zero_le _, Nat.zero_le _⟩) hP hD hS hA (wr := []) (wf := [(o_h, .inr (5, [.int o_players, .int o_bars, .ref o_price, .ref o_breath, .ref o_kind, .ref o_looks, .ref o_noise, .ref o_repeat, .ref o_now, .ref o_readPlayer, .ref o_readBar, .int o_readPlayers, .int o_readBars, .ref o_text, .int o_length, .int o_at, .int o_faultAt, .int o_acts, .int o_next, .ref o_row, .int o_heard, .ref o_heardOf, .ref o_heardBars, .ref o_heardPlays, .int o_hushWho, .int o_hushSum, .long o_seed, .ref o_isKept, .ref o_kept])), (o_now, .inl (cI, 32, .inl r9.2)), (o_noise, .inl (cI, 8, .inl o_noise_v)), (o_kind, .inl (cI, 6, .inl o_kind_v)), (o_looks, .inl (cI, 6, .inl o_looks_v)), (o_repeat, .inl (cI, 8, .inl o_repeat_v))]) [0, 1, 2, 3, 4, 5] [] [0, 1, 2, 3, 4, 5] rfl rfl rfl (by decide) rfl rfl (fun hB10 H locs hP hD hS => ?_)
        refine lv_isub hx hb dX5_share_80 ?_
        refine lv_imul hx hb dX5_share_81 ?_
        refine lv_iadd hx hb dX5_share_82 ?_
        obtain ⟨y11, ey11, hw⟩ := lxb_o hw
        refine lv_topi (fun z ez => ?_)
        obtain rfl : y11 = z := ey11.trans ez.symm
        refine lv_istore_n (lv' := [(3, .int y11), (5, .int (r4 * r6)), (0, .ref o_h), (1, .int x0), (2, .int x1), (4, .int (nI k15))]) hx hb dX5_share_83 rfl hl (by decide) rfl (fun ls hl => ?_)
        refine lv_iinc (v := nI (k15 + 1)) (lv' := [(4, .int (nI (k15 + 1))), (3, .int y11), (5, .int (r4 * r6)), (0, .ref o_h), (1, .int x0), (2, .int x1)]) hx hb dX5_share_84 hl (k := 5) rfl (nI_1 k15) (by decide) rfl (fun ls hl => ?_)
        refine lv_goto (tgt := 15) hx hb dX5_share_87 (by decide) ?_
        subst hw
        exact ih hB10 _ _ _ hP hD hS (lv_sub hl [3, 4, 5, 1, 0] rfl)
  · have hu := hu.trans (if_pos c_5)
    refine lv_iconst (v := (-1)) hx hb dX5_share_8 (by decide) ?_
    subst hu
    exact hg_ri hx hb hr hlk rfl hP hD hS dX5_share_9

set_option maxHeartbeats 4000000 in
set_option maxRecDepth 100000 in
theorem c_X5_gain (l : Launch) (dC : Nat → ClassId) (dI : Nat → Nat → Nat) (cI cZ cM : ClassId) (sz : Nat) (o_h : Nat) (x0 : Int32) (x1 : Int32) (o_players : Int32) (o_bars : Int32) (o_price : Nat) (o_breath : Nat) (o_kind : Nat) (o_looks : Nat) (o_noise : Nat) (o_repeat : Nat) (o_now : Nat) (o_readPlayer : Nat) (o_readBar : Nat) (o_readPlayers : Int32) (o_readBars : Int32) (o_text : Nat) (o_length : Int32) (o_at : Int32) (o_faultAt : Int32) (o_acts : Int32) (o_next : Int32) (o_row : Nat) (o_heard : Int32) (o_heardOf : Nat) (o_heardBars : Nat) (o_heardPlays : Nat) (o_hushWho : Int32) (o_hushSum : Int32) (o_seed : Int64) (o_isKept : Nat) (o_kept : Nat) (o_now_v : Nat → Int32) (o_noise_v : Nat → Int32) (o_kind_v : Nat → Int32) (o_looks_v : Nat → Int32) (o_repeat_v : Nat → Int32) (np : Nat) (enp : o_players = nI np) (hnp : np ≤ 6) (nb : Nat) (enb : o_bars = nI nb) (hnb : nb ≤ 8) (hB : mB o_now_v) (u : Int32 × (Nat → Int32)) (hu : u = f_X5_gain x0 x1 o_players o_bars o_hushWho o_hushSum o_now_v o_noise_v o_kind_v o_looks_v o_repeat_v) : Met l yX5_gain wsX5_gain { frames := 7, cells := 0, slots := 0, locals := 162 } (hgPc [.ref o_h, .int x0, .int x1] (dC, dI) cI cZ cM [(o_h, .inr (5, [.int o_players, .int o_bars, .ref o_price, .ref o_breath, .ref o_kind, .ref o_looks, .ref o_noise, .ref o_repeat, .ref o_now, .ref o_readPlayer, .ref o_readBar, .int o_readPlayers, .int o_readBars, .ref o_text, .int o_length, .int o_at, .int o_faultAt, .int o_acts, .int o_next, .ref o_row, .int o_heard, .ref o_heardOf, .ref o_heardBars, .ref o_heardPlays, .int o_hushWho, .int o_hushSum, .long o_seed, .ref o_isKept, .ref o_kept])), (o_now, .inl (cI, 32, .inl o_now_v)), (o_noise, .inl (cI, 8, .inl o_noise_v)), (o_kind, .inl (cI, 6, .inl o_kind_v)), (o_looks, .inl (cI, 6, .inl o_looks_v)), (o_repeat, .inl (cI, 8, .inl o_repeat_v))] sz) (hgQiE (dC, dI) u.1 [(o_h, .inr (5, [.int o_players, .int o_bars, .ref o_price, .ref o_breath, .ref o_kind, .ref o_looks, .ref o_noise, .ref o_repeat, .ref o_now, .ref o_readPlayer, .ref o_readBar, .int o_readPlayers, .int o_readBars, .ref o_text, .int o_length, .int o_at, .int o_faultAt, .int o_acts, .int o_next, .ref o_row, .int o_heard, .ref o_heardOf, .ref o_heardBars, .ref o_heardPlays, .int o_hushWho, .int o_hushSum, .long o_seed, .ref o_isKept, .ref o_kept])), (o_now, .inl (cI, 32, .inl u.2)), (o_noise, .inl (cI, 8, .inl o_noise_v)), (o_kind, .inl (cI, 6, .inl o_kind_v)), (o_looks, .inl (cI, 6, .inl o_looks_v)), (o_repeat, .inl (cI, 8, .inl o_repeat_v))] (mB u.2) (va_A [(o_h, .inr (5, [.int o_players, .int o_bars, .ref o_price, .ref o_breath, .ref o_kind, .ref o_looks, .ref o_noise, .ref o_repeat, .ref o_now, .ref o_readPlayer, .ref o_readBar, .int o_readPlayers, .int o_readBars, .ref o_text, .int o_length, .int o_at, .int o_faultAt, .int o_acts, .int o_next, .ref o_row, .int o_heard, .ref o_heardOf, .ref o_heardBars, .ref o_heardPlays, .int o_hushWho, .int o_hushSum, .long o_seed, .ref o_isKept, .ref o_kept])), (o_now, .inl (cI, 32, .inl o_now_v)), (o_noise, .inl (cI, 8, .inl o_noise_v)), (o_kind, .inl (cI, 6, .inl o_kind_v)), (o_looks, .inl (cI, 6, .inl o_looks_v)), (o_repeat, .inl (cI, 8, .inl o_repeat_v))] sz)) 0 0 (va_A [(o_h, .inr (5, [.int o_players, .int o_bars, .ref o_price, .ref o_breath, .ref o_kind, .ref o_looks, .ref o_noise, .ref o_repeat, .ref o_now, .ref o_readPlayer, .ref o_readBar, .int o_readPlayers, .int o_readBars, .ref o_text, .int o_length, .int o_at, .int o_faultAt, .int o_acts, .int o_next, .ref o_row, .int o_heard, .ref o_heardOf, .ref o_heardBars, .ref o_heardPlays, .int o_hushWho, .int o_hushSum, .long o_seed, .ref o_isKept, .ref o_kept])), (o_now, .inl (cI, 32, .inl o_now_v)), (o_noise, .inl (cI, 8, .inl o_noise_v)), (o_kind, .inl (cI, 6, .inl o_kind_v)), (o_looks, .inl (cI, 6, .inl o_looks_v)), (o_repeat, .inl (cI, 8, .inl o_repeat_v))] sz) := by
  refine hg_ofW (cc := cX5_gain) (maxL := 4) (ret := (some .int)) (own := RX5) (fun A => hgQiE (dC, dI) u.1 [(o_h, .inr (5, [.int o_players, .int o_bars, .ref o_price, .ref o_breath, .ref o_kind, .ref o_looks, .ref o_noise, .ref o_repeat, .ref o_now, .ref o_readPlayer, .ref o_readBar, .int o_readPlayers, .int o_readBars, .ref o_text, .int o_length, .int o_at, .int o_faultAt, .int o_acts, .int o_next, .ref o_row, .int o_heard, .ref o_heardOf, .ref o_heardBars, .ref o_heardPlays, .int o_hushWho, .int o_hushSum, .long o_seed, .ref o_isKept, .ref o_kept])), (o_now, .inl (cI, 32, .inl u.2)), (o_noise, .inl (cI, 8, .inl o_noise_v)), (o_kind, .inl (cI, 6, .inl o_kind_v)), (o_looks, .inl (cI, 6, .inl o_looks_v)), (o_repeat, .inl (cI, 8, .inl o_repeat_v))] (mB u.2) A) rfl (by decide) rfl (Nat.le_of_ble_eq_true rfl) ?_
  intro p e s m below meth c ls A hsz hx hb hr hml hown hts hlk hnm hK hN hA hP hD hS hl
  subst hsz
  have w1 := hts (.fieldLink RX5 214 "HatGoesRoundModel" "hushSum" "I") (List.mem_of_getElem? (i := 1) rfl)
  have hinX5 : ∀ w ∈ u_ws RX5 TX5 29, w ∈ wsX5_gain := fun _ h => List.mem_cons_of_mem _ (List.mem_append_right _ h)
  have w2 := hts (.fieldLink RX5 217 "HatGoesRoundModel" "hushWho" "I") (List.mem_of_getElem? (i := 2) rfl)
  have hl : lv_has ls 4 [(0, .ref o_h), (1, .int x0), (2, .int x1)] := hl
  unfold f_X5_gain at hu
  refine lv_aload_n hx hb dX5_gain_0 rfl (lv_at hl 0 rfl) ?_
  refine lv_iconst (v := 3) hx hb dX5_gain_1 (by decide) ?_
  refine lv_iload_n hx hb dX5_gain_2 rfl (lv_at hl 1 rfl) ?_
  refine lv_iload_n hx hb dX5_gain_3 rfl (lv_at hl 2 rfl) ?_
  refine lv_iadd hx hb dX5_gain_4 ?_
  refine lv_imul hx hb dX5_gain_5 ?_
  refine lv_aload_n hx hb dX5_gain_6 rfl (lv_at hl 0 rfl) ?_
  refine va_get (D := (dC, dI)) (ci := 5) (v := .int o_hushSum) (C := RX5) (T := TX5) (N := 29) hx hb hts hinX5 hown hK hP 0 rfl rfl 25 (by decide) w1 (fun _ h9 => h9) rfl dX5_gain_7 ?_
  obtain ⟨z1, ez1, hu⟩ := lxb_o hu
  refine hg_cut (D := (dC, dI)) (A0 := A) (H0 := s.heap) (ws := [(o_h, .inr (5, [.int o_players, .int o_bars, .ref o_price, .ref o_breath, .ref o_kind, .ref o_looks, .ref o_noise, .ref o_repeat, .ref o_now, .ref o_readPlayer, .ref o_readBar, .int o_readPlayers, .int o_readBars, .ref o_text, .int o_length, .int o_at, .int o_faultAt, .int o_acts, .int o_next, .ref o_row, .int o_heard, .ref o_heardOf, .ref o_heardBars, .ref o_heardPlays, .int o_hushWho, .int o_hushSum, .long o_seed, .ref o_isKept, .ref o_kept])), (o_now, .inl (cI, 32, .inl o_now_v)), (o_noise, .inl (cI, 8, .inl o_noise_v)), (o_kind, .inl (cI, 6, .inl o_kind_v)), (o_looks, .inl (cI, 6, .inl o_looks_v)), (o_repeat, .inl (cI, 8, .inl o_repeat_v))]) (g := F0 m 21 ls [.int z1, .ref o_h]) ?_ (fun hJ => ?_)
  · intro H locs hP hD hS
    refine lv_iconst (v := 3) hx hb dX5_gain_21 (by decide) ?_
    obtain ⟨r2, er2, hu⟩ := lxb_o hu
    refine hg_ciE (va_runV (As := [.int z1, .int 3]) (rest := []) ⟨hx, hb, hml, hown, hts⟩ (c_X5_isHushed l dC dI cI cZ cM _ o_h z1 3 o_players o_bars o_price o_breath o_kind o_looks o_noise o_repeat o_now o_readPlayer o_readBar o_readPlayers o_readBars o_text o_length o_at o_faultAt o_acts o_next o_row o_heard o_heardOf o_heardBars o_heardPlays o_hushWho o_hushSum o_seed o_isKept o_kept o_now_v o_noise_v o_kind_v o_looks_v o_repeat_v np enp (by omega) nb enb (by omega) hB r2 er2) (cwV 2 hts gX5_gain_X5_isHushed rfl rfl rfl (by decide +kernel) ⟨Nat.le_of_ble_eq_true rfl, Nat.le_of_ble_eq_true rfl⟩) (hgPreV (C := RX5) (T := TX5) (N := 29) (ci := 5) (q0 := 0) hP hD hK hN [0, 1, 2, 3, 4, 5] rfl rfl rfl rfl) rfl rfl hl.1 rfl (lv_room (Nat.le_of_ble_eq_true rfl)) dX5_gain_22 ⟨Nat.zero_le _, Nat.zero_le _⟩) hP hD hS hA (wr := []) (wf := [(o_h, .inr (5, [.int o_players, .int o_bars, .ref o_price, .ref o_breath, .ref o_kind, .ref o_looks, .ref o_noise, .ref o_repeat, .ref o_now, .ref o_readPlayer, .ref o_readBar, .int o_readPlayers, .int o_readBars, .ref o_text, .int o_length, .int o_at, .int o_faultAt, .int o_acts, .int o_next, .ref o_row, .int o_heard, .ref o_heardOf, .ref o_heardBars, .ref o_heardPlays, .int o_hushWho, .int o_hushSum, .long o_seed, .ref o_isKept, .ref o_kept])), (o_now, .inl (cI, 32, .inl r2.2)), (o_noise, .inl (cI, 8, .inl o_noise_v)), (o_kind, .inl (cI, 6, .inl o_kind_v)), (o_looks, .inl (cI, 6, .inl o_looks_v)), (o_repeat, .inl (cI, 8, .inl o_repeat_v))]) [0, 1, 2, 3, 4, 5] [] [0, 1, 2, 3, 4, 5] rfl rfl rfl (by decide) rfl rfl (fun hB3 H locs hP hD hS => ?_)
    refine lv_istore_n (lv' := [(3, .int r2.1), (0, .ref o_h), (1, .int x0), (2, .int x1)]) hx hb dX5_gain_25 rfl hl (by decide) rfl (fun ls hl => ?_)
    refine lv_iload_n hx hb dX5_gain_26 rfl (lv_at hl 0 rfl) ?_
    obtain ⟨z4, ez4, hu⟩ := lxb_o hu
    refine hg_cut (D := (dC, dI)) (A0 := A) (H0 := s.heap) (ws := [(o_h, .inr (5, [.int o_players, .int o_bars, .ref o_price, .ref o_breath, .ref o_kind, .ref o_looks, .ref o_noise, .ref o_repeat, .ref o_now, .ref o_readPlayer, .ref o_readBar, .int o_readPlayers, .int o_readBars, .ref o_text, .int o_length, .int o_at, .int o_faultAt, .int o_acts, .int o_next, .ref o_row, .int o_heard, .ref o_heardOf, .ref o_heardBars, .ref o_heardPlays, .int o_hushWho, .int o_hushSum, .long o_seed, .ref o_isKept, .ref o_kept])), (o_now, .inl (cI, 32, .inl r2.2)), (o_noise, .inl (cI, 8, .inl o_noise_v)), (o_kind, .inl (cI, 6, .inl o_kind_v)), (o_looks, .inl (cI, 6, .inl o_looks_v)), (o_repeat, .inl (cI, 8, .inl o_repeat_v))]) (g := F0 m 36 ls [.int z4]) ?_ (fun hJ => ?_)
    · intro H locs hP hD hS
      refine lv_iconst (v := 3) hx hb dX5_gain_36 (by decide) ?_
      refine lv_iload_n hx hb dX5_gain_37 rfl (lv_at hl 2 rfl) ?_
      refine lv_imul hx hb dX5_gain_38 ?_
      refine lv_isub hx hb dX5_gain_39 ?_
      subst hu
      exact hg_riE hx hb hr hlk rfl hB3 hP hD hS dX5_gain_40
    · refine lv_if_eq (tgt := 35) hx hb dX5_gain_27 (by decide) (fun c_27 => ?_) (fun c_27 => ?_)
      · have ez4 := ez4.trans (if_pos c_27)
        refine lv_iconst (v := 0) hx hb dX5_gain_35 (by decide) ?_
        subst ez4
        exact hJ _ _ hP hD hS
      · have ez4 := ez4.trans (if_neg c_27)
        refine lv_bipush (v := 8) hx hb dX5_gain_30 (by decide) ?_
        refine lv_goto (tgt := 36) hx hb dX5_gain_32 (by decide) ?_
        subst ez4
        exact hJ _ _ hP hD hS
  · refine lv_icmp_lt (tgt := 20) hx hb dX5_gain_10 (by decide) (fun c_10 => ?_) (fun c_10 => ?_)
    · have ez1 := ez1.trans (if_pos c_10)
      refine lv_iconst (v := 0) hx hb dX5_gain_20 (by decide) ?_
      subst ez1
      exact hJ _ _ hP hD hS
    · have ez1 := ez1.trans (if_neg c_10)
      refine lv_aload_n hx hb dX5_gain_13 rfl (lv_at hl 0 rfl) ?_
      refine va_get (D := (dC, dI)) (ci := 5) (v := .int o_hushWho) (C := RX5) (T := TX5) (N := 29) hx hb hts hinX5 hown hK hP 0 rfl rfl 24 (by decide) w2 (fun _ h9 => h9) rfl dX5_gain_14 ?_
      refine lv_goto (tgt := 21) hx hb dX5_gain_17 (by decide) ?_
      subst ez1
      exact hJ _ _ hP hD hS

set_option maxHeartbeats 4000000 in
set_option maxRecDepth 100000 in
theorem c_X5_isRest (l : Launch) (dC : Nat → ClassId) (dI : Nat → Nat → Nat) (cI cZ cM : ClassId) (sz : Nat) (o_h : Nat) (x0 : Int32) (x1 : Int32) (o_players : Int32) (o_bars : Int32) (o_price : Nat) (o_breath : Nat) (o_kind : Nat) (o_looks : Nat) (o_noise : Nat) (o_repeat : Nat) (o_now : Nat) (o_readPlayer : Nat) (o_readBar : Nat) (o_readPlayers : Int32) (o_readBars : Int32) (o_text : Nat) (o_length : Int32) (o_at : Int32) (o_faultAt : Int32) (o_acts : Int32) (o_next : Int32) (o_row : Nat) (o_heard : Int32) (o_heardOf : Nat) (o_heardBars : Nat) (o_heardPlays : Nat) (o_hushWho : Int32) (o_hushSum : Int32) (o_seed : Int64) (o_isKept : Nat) (o_kept : Nat) (o_now_v : Nat → Int32) (o_noise_v : Nat → Int32) (o_kind_v : Nat → Int32) (o_looks_v : Nat → Int32) (o_repeat_v : Nat → Int32) (np : Nat) (enp : o_players = nI np) (hnp : np ≤ 6) (nb : Nat) (enb : o_bars = nI nb) (hnb : nb ≤ 8) (hB : mB o_now_v) (u : Int32 × (Nat → Int32)) (hu : u = f_X5_isRest x0 x1 o_players o_bars o_hushWho o_hushSum o_now_v o_noise_v o_kind_v o_looks_v o_repeat_v) : Met l yX5_isRest wsX5_isRest { frames := 8, cells := 0, slots := 0, locals := 185 } (hgPc [.ref o_h, .int x0, .int x1] (dC, dI) cI cZ cM [(o_h, .inr (5, [.int o_players, .int o_bars, .ref o_price, .ref o_breath, .ref o_kind, .ref o_looks, .ref o_noise, .ref o_repeat, .ref o_now, .ref o_readPlayer, .ref o_readBar, .int o_readPlayers, .int o_readBars, .ref o_text, .int o_length, .int o_at, .int o_faultAt, .int o_acts, .int o_next, .ref o_row, .int o_heard, .ref o_heardOf, .ref o_heardBars, .ref o_heardPlays, .int o_hushWho, .int o_hushSum, .long o_seed, .ref o_isKept, .ref o_kept])), (o_now, .inl (cI, 32, .inl o_now_v)), (o_noise, .inl (cI, 8, .inl o_noise_v)), (o_kind, .inl (cI, 6, .inl o_kind_v)), (o_looks, .inl (cI, 6, .inl o_looks_v)), (o_repeat, .inl (cI, 8, .inl o_repeat_v))] sz) (hgQiE (dC, dI) u.1 [(o_h, .inr (5, [.int o_players, .int o_bars, .ref o_price, .ref o_breath, .ref o_kind, .ref o_looks, .ref o_noise, .ref o_repeat, .ref o_now, .ref o_readPlayer, .ref o_readBar, .int o_readPlayers, .int o_readBars, .ref o_text, .int o_length, .int o_at, .int o_faultAt, .int o_acts, .int o_next, .ref o_row, .int o_heard, .ref o_heardOf, .ref o_heardBars, .ref o_heardPlays, .int o_hushWho, .int o_hushSum, .long o_seed, .ref o_isKept, .ref o_kept])), (o_now, .inl (cI, 32, .inl u.2)), (o_noise, .inl (cI, 8, .inl o_noise_v)), (o_kind, .inl (cI, 6, .inl o_kind_v)), (o_looks, .inl (cI, 6, .inl o_looks_v)), (o_repeat, .inl (cI, 8, .inl o_repeat_v))] (mB u.2) (va_A [(o_h, .inr (5, [.int o_players, .int o_bars, .ref o_price, .ref o_breath, .ref o_kind, .ref o_looks, .ref o_noise, .ref o_repeat, .ref o_now, .ref o_readPlayer, .ref o_readBar, .int o_readPlayers, .int o_readBars, .ref o_text, .int o_length, .int o_at, .int o_faultAt, .int o_acts, .int o_next, .ref o_row, .int o_heard, .ref o_heardOf, .ref o_heardBars, .ref o_heardPlays, .int o_hushWho, .int o_hushSum, .long o_seed, .ref o_isKept, .ref o_kept])), (o_now, .inl (cI, 32, .inl o_now_v)), (o_noise, .inl (cI, 8, .inl o_noise_v)), (o_kind, .inl (cI, 6, .inl o_kind_v)), (o_looks, .inl (cI, 6, .inl o_looks_v)), (o_repeat, .inl (cI, 8, .inl o_repeat_v))] sz)) 0 0 (va_A [(o_h, .inr (5, [.int o_players, .int o_bars, .ref o_price, .ref o_breath, .ref o_kind, .ref o_looks, .ref o_noise, .ref o_repeat, .ref o_now, .ref o_readPlayer, .ref o_readBar, .int o_readPlayers, .int o_readBars, .ref o_text, .int o_length, .int o_at, .int o_faultAt, .int o_acts, .int o_next, .ref o_row, .int o_heard, .ref o_heardOf, .ref o_heardBars, .ref o_heardPlays, .int o_hushWho, .int o_hushSum, .long o_seed, .ref o_isKept, .ref o_kept])), (o_now, .inl (cI, 32, .inl o_now_v)), (o_noise, .inl (cI, 8, .inl o_noise_v)), (o_kind, .inl (cI, 6, .inl o_kind_v)), (o_looks, .inl (cI, 6, .inl o_looks_v)), (o_repeat, .inl (cI, 8, .inl o_repeat_v))] sz) := by
  refine hg_ofW (cc := cX5_isRest) (maxL := 5) (ret := (some .boolean)) (own := RX5) (fun A => hgQiE (dC, dI) u.1 [(o_h, .inr (5, [.int o_players, .int o_bars, .ref o_price, .ref o_breath, .ref o_kind, .ref o_looks, .ref o_noise, .ref o_repeat, .ref o_now, .ref o_readPlayer, .ref o_readBar, .int o_readPlayers, .int o_readBars, .ref o_text, .int o_length, .int o_at, .int o_faultAt, .int o_acts, .int o_next, .ref o_row, .int o_heard, .ref o_heardOf, .ref o_heardBars, .ref o_heardPlays, .int o_hushWho, .int o_hushSum, .long o_seed, .ref o_isKept, .ref o_kept])), (o_now, .inl (cI, 32, .inl u.2)), (o_noise, .inl (cI, 8, .inl o_noise_v)), (o_kind, .inl (cI, 6, .inl o_kind_v)), (o_looks, .inl (cI, 6, .inl o_looks_v)), (o_repeat, .inl (cI, 8, .inl o_repeat_v))] (mB u.2) A) rfl (by decide) rfl (Nat.le_of_ble_eq_true rfl) ?_
  intro p e s m below meth c ls A hsz hx hb hr hml hown hts hlk hnm hK hN hA hP hD hS hl
  subst hsz
  have hl : lv_has ls 5 [(0, .ref o_h), (1, .int x0), (2, .int x1)] := hl
  unfold f_X5_isRest at hu
  refine lv_iconst (v := 1) hx hb dX5_isRest_0 (by decide) ?_
  refine lv_istore_n (lv' := [(3, .int 1), (0, .ref o_h), (1, .int x0), (2, .int x1)]) hx hb dX5_isRest_1 rfl hl (by decide) rfl (fun ls hl => ?_)
  refine lv_iconst (v := 0) hx hb dX5_isRest_2 (by decide) ?_
  refine lv_istore (lv' := [(4, .int 0), (3, .int 1), (0, .ref o_h), (1, .int x0), (2, .int x1)]) hx hb dX5_isRest_3 hl (by decide) rfl (fun ls hl => ?_)
  obtain ⟨r9, er9, hu⟩ := lxb_o hu
  refine hg_loopFJ (T := Int32 × (Nat → Int32)) (N := (itn 0 3)) (fun v5 => (v5.1 = 0 ∨ v5.1 = 1) ∧ (mB v5.2)) (fun v5 => [(o_h, .inr (5, [.int o_players, .int o_bars, .ref o_price, .ref o_breath, .ref o_kind, .ref o_looks, .ref o_noise, .ref o_repeat, .ref o_now, .ref o_readPlayer, .ref o_readBar, .int o_readPlayers, .int o_readBars, .ref o_text, .int o_length, .int o_at, .int o_faultAt, .int o_acts, .int o_next, .ref o_row, .int o_heard, .ref o_heardOf, .ref o_heardBars, .ref o_heardPlays, .int o_hushWho, .int o_hushSum, .long o_seed, .ref o_isKept, .ref o_kept])), (o_now, .inl (cI, 32, .inl v5.2)), (o_noise, .inl (cI, 8, .inl o_noise_v)), (o_kind, .inl (cI, 6, .inl o_kind_v)), (o_looks, .inl (cI, 6, .inl o_looks_v)), (o_repeat, .inl (cI, 8, .inl o_repeat_v))]) (fun k5 v5 => [(0, .ref o_h), (1, .int x0), (2, .int x1), (3, .int v5.1), (4, .int (nI k5))]) (fun k5 => l_X5_isRest_5 x0 x1 o_players o_bars o_hushWho o_hushSum o_noise_v o_kind_v o_looks_v o_repeat_v (1, o_now_v) k5) ⟨(Or.inr rfl), hB⟩ ?_ ?_ hP hD hS (lv_sub hl [2, 3, 4, 1, 0] rfl)
  · intro v5 hJ5 hv H locs ls hP hD hS hl
    obtain rfl : r9 = v5 := er9.trans hv.symm
    have hP : va_P (dC, dI) vwCl [(o_h, .inr (5, [.int o_players, .int o_bars, .ref o_price, .ref o_breath, .ref o_kind, .ref o_looks, .ref o_noise, .ref o_repeat, .ref o_now, .ref o_readPlayer, .ref o_readBar, .int o_readPlayers, .int o_readBars, .ref o_text, .int o_length, .int o_at, .int o_faultAt, .int o_acts, .int o_next, .ref o_row, .int o_heard, .ref o_heardOf, .ref o_heardBars, .ref o_heardPlays, .int o_hushWho, .int o_hushSum, .long o_seed, .ref o_isKept, .ref o_kept])), (o_now, .inl (cI, 32, .inl r9.2)), (o_noise, .inl (cI, 8, .inl o_noise_v)), (o_kind, .inl (cI, 6, .inl o_kind_v)), (o_looks, .inl (cI, 6, .inl o_looks_v)), (o_repeat, .inl (cI, 8, .inl o_repeat_v))] H := hP
    have hD : va_D A [(o_h, .inr (5, [.int o_players, .int o_bars, .ref o_price, .ref o_breath, .ref o_kind, .ref o_looks, .ref o_noise, .ref o_repeat, .ref o_now, .ref o_readPlayer, .ref o_readBar, .int o_readPlayers, .int o_readBars, .ref o_text, .int o_length, .int o_at, .int o_faultAt, .int o_acts, .int o_next, .ref o_row, .int o_heard, .ref o_heardOf, .ref o_heardBars, .ref o_heardPlays, .int o_hushWho, .int o_hushSum, .long o_seed, .ref o_isKept, .ref o_kept])), (o_now, .inl (cI, 32, .inl r9.2)), (o_noise, .inl (cI, 8, .inl o_noise_v)), (o_kind, .inl (cI, 6, .inl o_kind_v)), (o_looks, .inl (cI, 6, .inl o_looks_v)), (o_repeat, .inl (cI, 8, .inl o_repeat_v))] := hD
    have hl : lv_has ls 5 [(0, .ref o_h), (1, .int x0), (2, .int x1), (3, .int r9.1), (4, .int (nI (itn 0 3)))] := hl
    refine lv_iload hx hb dX5_isRest_5 (lv_at hl 4 rfl) ?_
    refine lv_iconst (v := 3) hx hb dX5_isRest_7 (by decide) ?_
    refine lv_icmp_ge (tgt := 59) hx hb dX5_isRest_8 (by decide) (fun c_8 => ?_) (fun c_8 => absurd hg_lo0 c_8)
    refine lv_iload_n hx hb dX5_isRest_59 rfl (lv_at hl 3 rfl) ?_
    subst hu
    exact hg_rzE hx hb hr hlk (hg_nz hJ5.1) rfl hJ5.2 hP hD hS dX5_isRest_60
  · intro k5 hk v5 hJ5 hv w hw ih H locs ls hP hD hS hl
    have hw : w = b_X5_isRest_5 x0 x1 o_players o_bars o_hushWho o_hushSum o_noise_v o_kind_v o_looks_v o_repeat_v k5 v5 := by rw [hw, hv]; rfl
    unfold b_X5_isRest_5 at hw
    have hkb : k5 < 3 := Nat.lt_of_lt_of_le hk (by decide)
    have hP : va_P (dC, dI) vwCl [(o_h, .inr (5, [.int o_players, .int o_bars, .ref o_price, .ref o_breath, .ref o_kind, .ref o_looks, .ref o_noise, .ref o_repeat, .ref o_now, .ref o_readPlayer, .ref o_readBar, .int o_readPlayers, .int o_readBars, .ref o_text, .int o_length, .int o_at, .int o_faultAt, .int o_acts, .int o_next, .ref o_row, .int o_heard, .ref o_heardOf, .ref o_heardBars, .ref o_heardPlays, .int o_hushWho, .int o_hushSum, .long o_seed, .ref o_isKept, .ref o_kept])), (o_now, .inl (cI, 32, .inl v5.2)), (o_noise, .inl (cI, 8, .inl o_noise_v)), (o_kind, .inl (cI, 6, .inl o_kind_v)), (o_looks, .inl (cI, 6, .inl o_looks_v)), (o_repeat, .inl (cI, 8, .inl o_repeat_v))] H := hP
    have hD : va_D A [(o_h, .inr (5, [.int o_players, .int o_bars, .ref o_price, .ref o_breath, .ref o_kind, .ref o_looks, .ref o_noise, .ref o_repeat, .ref o_now, .ref o_readPlayer, .ref o_readBar, .int o_readPlayers, .int o_readBars, .ref o_text, .int o_length, .int o_at, .int o_faultAt, .int o_acts, .int o_next, .ref o_row, .int o_heard, .ref o_heardOf, .ref o_heardBars, .ref o_heardPlays, .int o_hushWho, .int o_hushSum, .long o_seed, .ref o_isKept, .ref o_kept])), (o_now, .inl (cI, 32, .inl v5.2)), (o_noise, .inl (cI, 8, .inl o_noise_v)), (o_kind, .inl (cI, 6, .inl o_kind_v)), (o_looks, .inl (cI, 6, .inl o_looks_v)), (o_repeat, .inl (cI, 8, .inl o_repeat_v))] := hD
    have hl : lv_has ls 5 [(0, .ref o_h), (1, .int x0), (2, .int x1), (3, .int v5.1), (4, .int (nI k5))] := hl
    refine lv_iload hx hb dX5_isRest_5 (lv_at hl 4 rfl) ?_
    refine lv_iconst (v := 3) hx hb dX5_isRest_7 (by decide) ?_
    refine lv_icmp_ge (tgt := 59) hx hb dX5_isRest_8 (by decide) (fun c_8 => absurd c_8 (hg_lo1 hk)) (fun c_8 => ?_)
    refine lv_iload_n hx hb dX5_isRest_11 rfl (lv_at hl 3 rfl) ?_
    refine lv_if_eq (tgt := 51) hx hb dX5_isRest_12 (by decide) (fun c_12 => ?_) (fun c_12 => ?_)
    · have hw := hw.trans (if_pos c_12)
      refine lv_iconst (v := 0) hx hb dX5_isRest_51 (by decide) ?_
      refine lv_istore_n (lv' := [(3, .int 0), (0, .ref o_h), (1, .int x0), (2, .int x1), (4, .int (nI k5))]) hx hb dX5_isRest_52 rfl hl (by decide) rfl (fun ls hl => ?_)
      refine lv_iinc (v := nI (k5 + 1)) (lv' := [(4, .int (nI (k5 + 1))), (3, .int 0), (0, .ref o_h), (1, .int x0), (2, .int x1)]) hx hb dX5_isRest_53 hl (k := 4) rfl (nI_1 k5) (by decide) rfl (fun ls hl => ?_)
      refine lv_goto (tgt := 5) hx hb dX5_isRest_56 (by decide) ?_
      subst hw
      exact ih ⟨(Or.inl rfl), hJ5.2⟩ _ _ _ hP hD hS (lv_sub hl [2, 3, 4, 1, 0] rfl)
    · have hw := hw.trans (if_neg c_12)
      refine lv_aload_n hx hb dX5_isRest_15 rfl (lv_at hl 0 rfl) ?_
      refine lv_iload hx hb dX5_isRest_16 (lv_at hl 4 rfl) ?_
      refine lv_iload_n hx hb dX5_isRest_18 rfl (lv_at hl 2 rfl) ?_
      obtain ⟨r1, er1, hw⟩ := lxb_o hw
      refine hg_ciE (va_runV (As := [.int (nI k5), .int x1]) (rest := []) ⟨hx, hb, hml, hown, hts⟩ (c_X5_gain l dC dI cI cZ cM _ o_h (nI k5) x1 o_players o_bars o_price o_breath o_kind o_looks o_noise o_repeat o_now o_readPlayer o_readBar o_readPlayers o_readBars o_text o_length o_at o_faultAt o_acts o_next o_row o_heard o_heardOf o_heardBars o_heardPlays o_hushWho o_hushSum o_seed o_isKept o_kept v5.2 o_noise_v o_kind_v o_looks_v o_repeat_v np enp (by omega) nb enb (by omega) hJ5.2 r1 er1) (cwV 2 hts gX5_isRest_X5_gain rfl rfl rfl (by decide +kernel) ⟨Nat.le_of_ble_eq_true rfl, Nat.le_of_ble_eq_true rfl⟩) (hgPreV (C := RX5) (T := TX5) (N := 29) (ci := 5) (q0 := 0) hP hD hK hN [0, 1, 2, 3, 4, 5] rfl rfl rfl rfl) rfl rfl hl.1 rfl (lv_room (Nat.le_of_ble_eq_true rfl)) dX5_isRest_19 ⟨Nat.zero_le _, Nat.zero_le _⟩) hP hD hS hA (wr := []) (wf := [(o_h, .inr (5, [.int o_players, .int o_bars, .ref o_price, .ref o_breath, .ref o_kind, .ref o_looks, .ref o_noise, .ref o_repeat, .ref o_now, .ref o_readPlayer, .ref o_readBar, .int o_readPlayers, .int o_readBars, .ref o_text, .int o_length, .int o_at, .int o_faultAt, .int o_acts, .int o_next, .ref o_row, .int o_heard, .ref o_heardOf, .ref o_heardBars, .ref o_heardPlays, .int o_hushWho, .int o_hushSum, .long o_seed, .ref o_isKept, .ref o_kept])), (o_now, .inl (cI, 32, .inl r1.2)), (o_noise, .inl (cI, 8, .inl o_noise_v)), (o_kind, .inl (cI, 6, .inl o_kind_v)), (o_looks, .inl (cI, 6, .inl o_looks_v)), (o_repeat, .inl (cI, 8, .inl o_repeat_v))]) [0, 1, 2, 3, 4, 5] [] [0, 1, 2, 3, 4, 5] rfl rfl rfl (by decide) rfl rfl (fun hB2 H locs hP hD hS => ?_)
      refine lv_aload_n hx hb dX5_isRest_22 rfl (lv_at hl 0 rfl) ?_
      refine lv_iload_n hx hb dX5_isRest_23 rfl (lv_at hl 1 rfl) ?_
      refine lv_iload_n hx hb dX5_isRest_24 rfl (lv_at hl 2 rfl) ?_
      obtain ⟨r3, er3, hw⟩ := lxb_o hw
      refine hg_ciE (va_runV (As := [.int x0, .int x1]) (rest := [.int r1.1]) ⟨hx, hb, hml, hown, hts⟩ (c_X5_gain l dC dI cI cZ cM _ o_h x0 x1 o_players o_bars o_price o_breath o_kind o_looks o_noise o_repeat o_now o_readPlayer o_readBar o_readPlayers o_readBars o_text o_length o_at o_faultAt o_acts o_next o_row o_heard o_heardOf o_heardBars o_heardPlays o_hushWho o_hushSum o_seed o_isKept o_kept r1.2 o_noise_v o_kind_v o_looks_v o_repeat_v np enp (by omega) nb enb (by omega) hB2 r3 er3) (cwV 2 hts gX5_isRest_X5_gain rfl rfl rfl (by decide +kernel) ⟨Nat.le_of_ble_eq_true rfl, Nat.le_of_ble_eq_true rfl⟩) (hgPreV (C := RX5) (T := TX5) (N := 29) (ci := 5) (q0 := 0) hP hD hK hN [0, 1, 2, 3, 4, 5] rfl rfl rfl rfl) rfl rfl hl.1 rfl (lv_room (Nat.le_of_ble_eq_true rfl)) dX5_isRest_25 ⟨Nat.zero_le _, Nat.zero_le _⟩) hP hD hS hA (wr := []) (wf := [(o_h, .inr (5, [.int o_players, .int o_bars, .ref o_price, .ref o_breath, .ref o_kind, .ref o_looks, .ref o_noise, .ref o_repeat, .ref o_now, .ref o_readPlayer, .ref o_readBar, .int o_readPlayers, .int o_readBars, .ref o_text, .int o_length, .int o_at, .int o_faultAt, .int o_acts, .int o_next, .ref o_row, .int o_heard, .ref o_heardOf, .ref o_heardBars, .ref o_heardPlays, .int o_hushWho, .int o_hushSum, .long o_seed, .ref o_isKept, .ref o_kept])), (o_now, .inl (cI, 32, .inl r3.2)), (o_noise, .inl (cI, 8, .inl o_noise_v)), (o_kind, .inl (cI, 6, .inl o_kind_v)), (o_looks, .inl (cI, 6, .inl o_looks_v)), (o_repeat, .inl (cI, 8, .inl o_repeat_v))]) [0, 1, 2, 3, 4, 5] [] [0, 1, 2, 3, 4, 5] rfl rfl rfl (by decide) rfl rfl (fun hB4 H locs hP hD hS => ?_)
      refine lv_icmp_gt (tgt := 51) hx hb dX5_isRest_28 (by decide) (fun c_28 => ?_) (fun c_28 => ?_)
      · have hw := hw.trans (if_pos c_28)
        refine lv_iconst (v := 0) hx hb dX5_isRest_51 (by decide) ?_
        refine lv_istore_n (lv' := [(3, .int 0), (0, .ref o_h), (1, .int x0), (2, .int x1), (4, .int (nI k5))]) hx hb dX5_isRest_52 rfl hl (by decide) rfl (fun ls hl => ?_)
        refine lv_iinc (v := nI (k5 + 1)) (lv' := [(4, .int (nI (k5 + 1))), (3, .int 0), (0, .ref o_h), (1, .int x0), (2, .int x1)]) hx hb dX5_isRest_53 hl (k := 4) rfl (nI_1 k5) (by decide) rfl (fun ls hl => ?_)
        refine lv_goto (tgt := 5) hx hb dX5_isRest_56 (by decide) ?_
        subst hw
        exact ih ⟨(Or.inl rfl), hB4⟩ _ _ _ hP hD hS (lv_sub hl [2, 3, 4, 1, 0] rfl)
      · have hw := hw.trans (if_neg c_28)
        refine lv_aload_n hx hb dX5_isRest_31 rfl (lv_at hl 0 rfl) ?_
        refine lv_iload hx hb dX5_isRest_32 (lv_at hl 4 rfl) ?_
        refine lv_iload_n hx hb dX5_isRest_34 rfl (lv_at hl 1 rfl) ?_
        obtain ⟨r5, er5, hw⟩ := lxb_o hw
        refine hg_ciE (va_runV (As := [.int (nI k5), .int x0]) (rest := []) ⟨hx, hb, hml, hown, hts⟩ (c_X5_gain l dC dI cI cZ cM _ o_h (nI k5) x0 o_players o_bars o_price o_breath o_kind o_looks o_noise o_repeat o_now o_readPlayer o_readBar o_readPlayers o_readBars o_text o_length o_at o_faultAt o_acts o_next o_row o_heard o_heardOf o_heardBars o_heardPlays o_hushWho o_hushSum o_seed o_isKept o_kept r3.2 o_noise_v o_kind_v o_looks_v o_repeat_v np enp (by omega) nb enb (by omega) hB4 r5 er5) (cwV 2 hts gX5_isRest_X5_gain rfl rfl rfl (by decide +kernel) ⟨Nat.le_of_ble_eq_true rfl, Nat.le_of_ble_eq_true rfl⟩) (hgPreV (C := RX5) (T := TX5) (N := 29) (ci := 5) (q0 := 0) hP hD hK hN [0, 1, 2, 3, 4, 5] rfl rfl rfl rfl) rfl rfl hl.1 rfl (lv_room (Nat.le_of_ble_eq_true rfl)) dX5_isRest_35 ⟨Nat.zero_le _, Nat.zero_le _⟩) hP hD hS hA (wr := []) (wf := [(o_h, .inr (5, [.int o_players, .int o_bars, .ref o_price, .ref o_breath, .ref o_kind, .ref o_looks, .ref o_noise, .ref o_repeat, .ref o_now, .ref o_readPlayer, .ref o_readBar, .int o_readPlayers, .int o_readBars, .ref o_text, .int o_length, .int o_at, .int o_faultAt, .int o_acts, .int o_next, .ref o_row, .int o_heard, .ref o_heardOf, .ref o_heardBars, .ref o_heardPlays, .int o_hushWho, .int o_hushSum, .long o_seed, .ref o_isKept, .ref o_kept])), (o_now, .inl (cI, 32, .inl r5.2)), (o_noise, .inl (cI, 8, .inl o_noise_v)), (o_kind, .inl (cI, 6, .inl o_kind_v)), (o_looks, .inl (cI, 6, .inl o_looks_v)), (o_repeat, .inl (cI, 8, .inl o_repeat_v))]) [0, 1, 2, 3, 4, 5] [] [0, 1, 2, 3, 4, 5] rfl rfl rfl (by decide) rfl rfl (fun hB6 H locs hP hD hS => ?_)
        refine lv_aload_n hx hb dX5_isRest_38 rfl (lv_at hl 0 rfl) ?_
        refine lv_iload_n hx hb dX5_isRest_39 rfl (lv_at hl 2 rfl) ?_
        refine lv_iload_n hx hb dX5_isRest_40 rfl (lv_at hl 1 rfl) ?_
        obtain ⟨r7, er7, hw⟩ := lxb_o hw
        refine hg_ciE (va_runV (As := [.int x1, .int x0]) (rest := [.int r5.1]) ⟨hx, hb, hml, hown, hts⟩ (c_X5_gain l dC dI cI cZ cM _ o_h x1 x0 o_players o_bars o_price o_breath o_kind o_looks o_noise o_repeat o_now o_readPlayer o_readBar o_readPlayers o_readBars o_text o_length o_at o_faultAt o_acts o_next o_row o_heard o_heardOf o_heardBars o_heardPlays o_hushWho o_hushSum o_seed o_isKept o_kept r5.2 o_noise_v o_kind_v o_looks_v o_repeat_v np enp (by omega) nb enb (by omega) hB6 r7 er7) (cwV 2 hts gX5_isRest_X5_gain rfl rfl rfl (by decide +kernel) ⟨Nat.le_of_ble_eq_true rfl, Nat.le_of_ble_eq_true rfl⟩) (hgPreV (C := RX5) (T := TX5) (N := 29) (ci := 5) (q0 := 0) hP hD hK hN [0, 1, 2, 3, 4, 5] rfl rfl rfl rfl) rfl rfl hl.1 rfl (lv_room (Nat.le_of_ble_eq_true rfl)) dX5_isRest_41 ⟨Nat.zero_le _, Nat.zero_le _⟩) hP hD hS hA (wr := []) (wf := [(o_h, .inr (5, [.int o_players, .int o_bars, .ref o_price, .ref o_breath, .ref o_kind, .ref o_looks, .ref o_noise, .ref o_repeat, .ref o_now, .ref o_readPlayer, .ref o_readBar, .int o_readPlayers, .int o_readBars, .ref o_text, .int o_length, .int o_at, .int o_faultAt, .int o_acts, .int o_next, .ref o_row, .int o_heard, .ref o_heardOf, .ref o_heardBars, .ref o_heardPlays, .int o_hushWho, .int o_hushSum, .long o_seed, .ref o_isKept, .ref o_kept])), (o_now, .inl (cI, 32, .inl r7.2)), (o_noise, .inl (cI, 8, .inl o_noise_v)), (o_kind, .inl (cI, 6, .inl o_kind_v)), (o_looks, .inl (cI, 6, .inl o_looks_v)), (o_repeat, .inl (cI, 8, .inl o_repeat_v))]) [0, 1, 2, 3, 4, 5] [] [0, 1, 2, 3, 4, 5] rfl rfl rfl (by decide) rfl rfl (fun hB8 H locs hP hD hS => ?_)
        refine lv_icmp_gt (tgt := 51) hx hb dX5_isRest_44 (by decide) (fun c_44 => ?_) (fun c_44 => ?_)
        · have hw := hw.trans (if_pos c_44)
          refine lv_iconst (v := 0) hx hb dX5_isRest_51 (by decide) ?_
          refine lv_istore_n (lv' := [(3, .int 0), (0, .ref o_h), (1, .int x0), (2, .int x1), (4, .int (nI k5))]) hx hb dX5_isRest_52 rfl hl (by decide) rfl (fun ls hl => ?_)
          refine lv_iinc (v := nI (k5 + 1)) (lv' := [(4, .int (nI (k5 + 1))), (3, .int 0), (0, .ref o_h), (1, .int x0), (2, .int x1)]) hx hb dX5_isRest_53 hl (k := 4) rfl (nI_1 k5) (by decide) rfl (fun ls hl => ?_)
          refine lv_goto (tgt := 5) hx hb dX5_isRest_56 (by decide) ?_
          subst hw
          exact ih ⟨(Or.inl rfl), hB8⟩ _ _ _ hP hD hS (lv_sub hl [2, 3, 4, 1, 0] rfl)
        · have hw := hw.trans (if_neg c_44)
          refine lv_iconst (v := 1) hx hb dX5_isRest_47 (by decide) ?_
          refine lv_goto (tgt := 52) hx hb dX5_isRest_48 (by decide) ?_
          refine lv_istore_n (lv' := [(3, .int 1), (0, .ref o_h), (1, .int x0), (2, .int x1), (4, .int (nI k5))]) hx hb dX5_isRest_52 rfl hl (by decide) rfl (fun ls hl => ?_)
          refine lv_iinc (v := nI (k5 + 1)) (lv' := [(4, .int (nI (k5 + 1))), (3, .int 1), (0, .ref o_h), (1, .int x0), (2, .int x1)]) hx hb dX5_isRest_53 hl (k := 4) rfl (nI_1 k5) (by decide) rfl (fun ls hl => ?_)
          refine lv_goto (tgt := 5) hx hb dX5_isRest_56 (by decide) ?_
          subst hw
          exact ih ⟨(Or.inr rfl), hB8⟩ _ _ _ hP hD hS (lv_sub hl [2, 3, 4, 1, 0] rfl)

set_option maxHeartbeats 4000000 in
set_option maxRecDepth 100000 in
theorem c_X5_rests (l : Launch) (dC : Nat → ClassId) (dI : Nat → Nat → Nat) (cI cZ cM : ClassId) (sz : Nat) (o_h : Nat) (x0 : Int32) (o_players : Int32) (o_bars : Int32) (o_price : Nat) (o_breath : Nat) (o_kind : Nat) (o_looks : Nat) (o_noise : Nat) (o_repeat : Nat) (o_now : Nat) (o_readPlayer : Nat) (o_readBar : Nat) (o_readPlayers : Int32) (o_readBars : Int32) (o_text : Nat) (o_length : Int32) (o_at : Int32) (o_faultAt : Int32) (o_acts : Int32) (o_next : Int32) (o_row : Nat) (o_heard : Int32) (o_heardOf : Nat) (o_heardBars : Nat) (o_heardPlays : Nat) (o_hushWho : Int32) (o_hushSum : Int32) (o_seed : Int64) (o_isKept : Nat) (o_kept : Nat) (o_now_v : Nat → Int32) (o_price_v : Nat → Int32) (o_noise_v : Nat → Int32) (o_kind_v : Nat → Int32) (o_looks_v : Nat → Int32) (o_repeat_v : Nat → Int32) (np : Nat) (enp : o_players = nI np) (hnp : np ≤ 6) (nb : Nat) (enb : o_bars = nI nb) (hnb : nb ≤ 8) (hB : mB o_now_v) (u : Int32 × Int32 × Int32 × (Nat → Int32)) (hu : u = f_X5_rests x0 o_players o_bars o_hushWho o_hushSum o_now_v o_price_v o_noise_v o_kind_v o_looks_v o_repeat_v) : Met l yX5_rests wsX5_rests { frames := 9, cells := 0, slots := 0, locals := 209 } (hgPc [.ref o_h, .int x0] (dC, dI) cI cZ cM [(o_h, .inr (5, [.int o_players, .int o_bars, .ref o_price, .ref o_breath, .ref o_kind, .ref o_looks, .ref o_noise, .ref o_repeat, .ref o_now, .ref o_readPlayer, .ref o_readBar, .int o_readPlayers, .int o_readBars, .ref o_text, .int o_length, .int o_at, .int o_faultAt, .int o_acts, .int o_next, .ref o_row, .int o_heard, .ref o_heardOf, .ref o_heardBars, .ref o_heardPlays, .int o_hushWho, .int o_hushSum, .long o_seed, .ref o_isKept, .ref o_kept])), (o_now, .inl (cI, 32, .inl o_now_v)), (o_price, .inl (cI, 6, .inl o_price_v)), (o_noise, .inl (cI, 8, .inl o_noise_v)), (o_kind, .inl (cI, 6, .inl o_kind_v)), (o_looks, .inl (cI, 6, .inl o_looks_v)), (o_repeat, .inl (cI, 8, .inl o_repeat_v))] sz) (hgQi (dC, dI) u.1 [(o_h, .inr (5, [.int o_players, .int o_bars, .ref o_price, .ref o_breath, .ref o_kind, .ref o_looks, .ref o_noise, .ref o_repeat, .ref o_now, .ref o_readPlayer, .ref o_readBar, .int o_readPlayers, .int o_readBars, .ref o_text, .int o_length, .int o_at, .int o_faultAt, .int o_acts, .int o_next, .ref o_row, .int o_heard, .ref o_heardOf, .ref o_heardBars, .ref o_heardPlays, .int u.2.1, .int u.2.2.1, .long o_seed, .ref o_isKept, .ref o_kept])), (o_now, .inl (cI, 32, .inl u.2.2.2)), (o_price, .inl (cI, 6, .inl o_price_v)), (o_noise, .inl (cI, 8, .inl o_noise_v)), (o_kind, .inl (cI, 6, .inl o_kind_v)), (o_looks, .inl (cI, 6, .inl o_looks_v)), (o_repeat, .inl (cI, 8, .inl o_repeat_v))] (va_A [(o_h, .inr (5, [.int o_players, .int o_bars, .ref o_price, .ref o_breath, .ref o_kind, .ref o_looks, .ref o_noise, .ref o_repeat, .ref o_now, .ref o_readPlayer, .ref o_readBar, .int o_readPlayers, .int o_readBars, .ref o_text, .int o_length, .int o_at, .int o_faultAt, .int o_acts, .int o_next, .ref o_row, .int o_heard, .ref o_heardOf, .ref o_heardBars, .ref o_heardPlays, .int o_hushWho, .int o_hushSum, .long o_seed, .ref o_isKept, .ref o_kept])), (o_now, .inl (cI, 32, .inl o_now_v)), (o_price, .inl (cI, 6, .inl o_price_v)), (o_noise, .inl (cI, 8, .inl o_noise_v)), (o_kind, .inl (cI, 6, .inl o_kind_v)), (o_looks, .inl (cI, 6, .inl o_looks_v)), (o_repeat, .inl (cI, 8, .inl o_repeat_v))] sz)) 0 0 (va_A [(o_h, .inr (5, [.int o_players, .int o_bars, .ref o_price, .ref o_breath, .ref o_kind, .ref o_looks, .ref o_noise, .ref o_repeat, .ref o_now, .ref o_readPlayer, .ref o_readBar, .int o_readPlayers, .int o_readBars, .ref o_text, .int o_length, .int o_at, .int o_faultAt, .int o_acts, .int o_next, .ref o_row, .int o_heard, .ref o_heardOf, .ref o_heardBars, .ref o_heardPlays, .int o_hushWho, .int o_hushSum, .long o_seed, .ref o_isKept, .ref o_kept])), (o_now, .inl (cI, 32, .inl o_now_v)), (o_price, .inl (cI, 6, .inl o_price_v)), (o_noise, .inl (cI, 8, .inl o_noise_v)), (o_kind, .inl (cI, 6, .inl o_kind_v)), (o_looks, .inl (cI, 6, .inl o_looks_v)), (o_repeat, .inl (cI, 8, .inl o_repeat_v))] sz) := by
  refine hg_ofW (cc := cX5_rests) (maxL := 5) (ret := (some .int)) (own := RX5) (fun A => hgQi (dC, dI) u.1 [(o_h, .inr (5, [.int o_players, .int o_bars, .ref o_price, .ref o_breath, .ref o_kind, .ref o_looks, .ref o_noise, .ref o_repeat, .ref o_now, .ref o_readPlayer, .ref o_readBar, .int o_readPlayers, .int o_readBars, .ref o_text, .int o_length, .int o_at, .int o_faultAt, .int o_acts, .int o_next, .ref o_row, .int o_heard, .ref o_heardOf, .ref o_heardBars, .ref o_heardPlays, .int u.2.1, .int u.2.2.1, .long o_seed, .ref o_isKept, .ref o_kept])), (o_now, .inl (cI, 32, .inl u.2.2.2)), (o_price, .inl (cI, 6, .inl o_price_v)), (o_noise, .inl (cI, 8, .inl o_noise_v)), (o_kind, .inl (cI, 6, .inl o_kind_v)), (o_looks, .inl (cI, 6, .inl o_looks_v)), (o_repeat, .inl (cI, 8, .inl o_repeat_v))] A) rfl (by decide) rfl (Nat.le_of_ble_eq_true rfl) ?_
  intro p e s m below meth c ls A hsz hx hb hr hml hown hts hlk hnm hK hN hA hP hD hS hl
  subst hsz
  have w1 := hts (.fieldLink RX5 217 "HatGoesRoundModel" "hushWho" "I") (List.mem_of_getElem? (i := 1) rfl)
  have hinX5 : ∀ w ∈ u_ws RX5 TX5 29, w ∈ wsX5_rests := fun _ h => List.mem_cons_of_mem _ (List.mem_append_right _ h)
  have w2 := hts (.fieldLink RX5 214 "HatGoesRoundModel" "hushSum" "I") (List.mem_of_getElem? (i := 2) rfl)
  have hl : lv_has ls 5 [(0, .ref o_h), (1, .int x0)] := hl
  unfold f_X5_rests at hu
  refine lv_iload_n hx hb dX5_rests_0 rfl (lv_at hl 1 rfl) ?_
  refine lv_i2l (v := (Int32.toInt64 x0)) hx hb dX5_rests_1 rfl ?_
  refine lv_lconst (v := 0) hx hb dX5_rests_2 (by decide) ?_
  refine lv_lconst (v := 1) hx hb dX5_rests_3 (by decide) ?_
  obtain ⟨r1, er1, hu⟩ := lxb_o hu
  refine hg_ci (va_runS (As := [.long (Int32.toInt64 x0), .long 0, .long 1]) (rest := []) ⟨hx, hb, hml, hown, hts⟩ (c_X5_in l dC dI cI cZ cM _ (Int32.toInt64 x0) 0 1 r1 er1) (va_cwS 3 hts gX5_rests_X5_in rfl rfl rfl (by decide +kernel) ⟨Nat.le_of_ble_eq_true rfl, Nat.le_of_ble_eq_true rfl⟩) (hgPreS hP hD hK hN [] rfl rfl) rfl rfl hl.1 rfl (lv_room (Nat.le_of_ble_eq_true rfl)) dX5_rests_4 ⟨Nat.zero_le _, Nat.zero_le _⟩) hP hD hS hA (wr := [(o_h, .inr (5, [.int o_players, .int o_bars, .ref o_price, .ref o_breath, .ref o_kind, .ref o_looks, .ref o_noise, .ref o_repeat, .ref o_now, .ref o_readPlayer, .ref o_readBar, .int o_readPlayers, .int o_readBars, .ref o_text, .int o_length, .int o_at, .int o_faultAt, .int o_acts, .int o_next, .ref o_row, .int o_heard, .ref o_heardOf, .ref o_heardBars, .ref o_heardPlays, .int o_hushWho, .int o_hushSum, .long o_seed, .ref o_isKept, .ref o_kept])), (o_now, .inl (cI, 32, .inl o_now_v)), (o_price, .inl (cI, 6, .inl o_price_v)), (o_noise, .inl (cI, 8, .inl o_noise_v)), (o_kind, .inl (cI, 6, .inl o_kind_v)), (o_looks, .inl (cI, 6, .inl o_looks_v)), (o_repeat, .inl (cI, 8, .inl o_repeat_v))]) (wf := [(o_h, .inr (5, [.int o_players, .int o_bars, .ref o_price, .ref o_breath, .ref o_kind, .ref o_looks, .ref o_noise, .ref o_repeat, .ref o_now, .ref o_readPlayer, .ref o_readBar, .int o_readPlayers, .int o_readBars, .ref o_text, .int o_length, .int o_at, .int o_faultAt, .int o_acts, .int o_next, .ref o_row, .int o_heard, .ref o_heardOf, .ref o_heardBars, .ref o_heardPlays, .int o_hushWho, .int o_hushSum, .long o_seed, .ref o_isKept, .ref o_kept])), (o_now, .inl (cI, 32, .inl o_now_v)), (o_price, .inl (cI, 6, .inl o_price_v)), (o_noise, .inl (cI, 8, .inl o_noise_v)), (o_kind, .inl (cI, 6, .inl o_kind_v)), (o_looks, .inl (cI, 6, .inl o_looks_v)), (o_repeat, .inl (cI, 8, .inl o_repeat_v))]) [] [0, 1, 2, 3, 4, 5, 6] [0, 1, 2, 3, 4, 5, 6] rfl rfl rfl (by decide) rfl rfl (fun H locs hP hD hS => ?_)
  refine lv_if_ne (tgt := 13) hx hb dX5_rests_7 (by decide) (fun c_7 => ?_) (fun c_7 => ?_)
  · have hu := hu.trans (if_neg c_7)
    refine lv_aload_n hx hb dX5_rests_13 rfl (lv_at hl 0 rfl) ?_
    refine lv_aload_n hx hb dX5_rests_14 rfl (lv_at hl 0 rfl) ?_
    refine lv_iconst (v := 3) hx hb dX5_rests_15 (by decide) ?_
    obtain ⟨r2, er2, hu⟩ := lxb_o hu
    refine hg_ciE (va_runV (As := [.int 3]) (rest := [.ref o_h]) ⟨hx, hb, hml, hown, hts⟩ (c_X5_cheapest l dC dI cI cZ cM _ o_h 3 o_players o_bars o_price o_breath o_kind o_looks o_noise o_repeat o_now o_readPlayer o_readBar o_readPlayers o_readBars o_text o_length o_at o_faultAt o_acts o_next o_row o_heard o_heardOf o_heardBars o_heardPlays o_hushWho o_hushSum o_seed o_isKept o_kept o_now_v o_price_v o_noise_v o_kind_v o_looks_v o_repeat_v np enp (by omega) nb enb (by omega) hB r2 er2) (cwV 1 hts gX5_rests_X5_cheapest rfl rfl rfl (by decide +kernel) ⟨Nat.le_of_ble_eq_true rfl, Nat.le_of_ble_eq_true rfl⟩) (hgPreV (C := RX5) (T := TX5) (N := 29) (ci := 5) (q0 := 0) hP hD hK hN [0, 1, 2, 3, 4, 5, 6] rfl rfl rfl rfl) rfl rfl hl.1 rfl (lv_room (Nat.le_of_ble_eq_true rfl)) dX5_rests_16 ⟨Nat.zero_le _, Nat.zero_le _⟩) hP hD hS hA (wr := []) (wf := [(o_h, .inr (5, [.int o_players, .int o_bars, .ref o_price, .ref o_breath, .ref o_kind, .ref o_looks, .ref o_noise, .ref o_repeat, .ref o_now, .ref o_readPlayer, .ref o_readBar, .int o_readPlayers, .int o_readBars, .ref o_text, .int o_length, .int o_at, .int o_faultAt, .int o_acts, .int o_next, .ref o_row, .int o_heard, .ref o_heardOf, .ref o_heardBars, .ref o_heardPlays, .int o_hushWho, .int o_hushSum, .long o_seed, .ref o_isKept, .ref o_kept])), (o_now, .inl (cI, 32, .inl r2.2)), (o_price, .inl (cI, 6, .inl o_price_v)), (o_noise, .inl (cI, 8, .inl o_noise_v)), (o_kind, .inl (cI, 6, .inl o_kind_v)), (o_looks, .inl (cI, 6, .inl o_looks_v)), (o_repeat, .inl (cI, 8, .inl o_repeat_v))]) [0, 1, 2, 3, 4, 5, 6] [] [0, 1, 2, 3, 4, 5, 6] rfl rfl rfl (by decide) rfl rfl (fun hB3 H locs hP hD hS => ?_)
    refine va_put (D := (dC, dI)) (ci := 5) (v := .int r2.1) (ty := .int) (C := RX5) (T := TX5) (N := 29) hx hb hts hinX5 tyX5 tyX5_ok nmX5 hown hK hP hD hS 0 rfl rfl 24 (by decide) w1 (fun _ h9 => h9) rfl (by decide +kernel) rfl rfl (Nat.le_of_ble_eq_true rfl) dX5_rests_19 (fun H locs hP hD hS => ?_)
    have hP : va_P (dC, dI) vwCl [(o_h, .inr (5, [.int o_players, .int o_bars, .ref o_price, .ref o_breath, .ref o_kind, .ref o_looks, .ref o_noise, .ref o_repeat, .ref o_now, .ref o_readPlayer, .ref o_readBar, .int o_readPlayers, .int o_readBars, .ref o_text, .int o_length, .int o_at, .int o_faultAt, .int o_acts, .int o_next, .ref o_row, .int o_heard, .ref o_heardOf, .ref o_heardBars, .ref o_heardPlays, .int r2.1, .int o_hushSum, .long o_seed, .ref o_isKept, .ref o_kept])), (o_now, .inl (cI, 32, .inl r2.2)), (o_price, .inl (cI, 6, .inl o_price_v)), (o_noise, .inl (cI, 8, .inl o_noise_v)), (o_kind, .inl (cI, 6, .inl o_kind_v)), (o_looks, .inl (cI, 6, .inl o_looks_v)), (o_repeat, .inl (cI, 8, .inl o_repeat_v))] H := hP
    have hD : va_D A [(o_h, .inr (5, [.int o_players, .int o_bars, .ref o_price, .ref o_breath, .ref o_kind, .ref o_looks, .ref o_noise, .ref o_repeat, .ref o_now, .ref o_readPlayer, .ref o_readBar, .int o_readPlayers, .int o_readBars, .ref o_text, .int o_length, .int o_at, .int o_faultAt, .int o_acts, .int o_next, .ref o_row, .int o_heard, .ref o_heardOf, .ref o_heardBars, .ref o_heardPlays, .int r2.1, .int o_hushSum, .long o_seed, .ref o_isKept, .ref o_kept])), (o_now, .inl (cI, 32, .inl r2.2)), (o_price, .inl (cI, 6, .inl o_price_v)), (o_noise, .inl (cI, 8, .inl o_noise_v)), (o_kind, .inl (cI, 6, .inl o_kind_v)), (o_looks, .inl (cI, 6, .inl o_looks_v)), (o_repeat, .inl (cI, 8, .inl o_repeat_v))] := hD
    refine lv_aload_n hx hb dX5_rests_22 rfl (lv_at hl 0 rfl) ?_
    refine lv_aload_n hx hb dX5_rests_23 rfl (lv_at hl 0 rfl) ?_
    refine lv_aload_n hx hb dX5_rests_24 rfl (lv_at hl 0 rfl) ?_
    refine va_get (D := (dC, dI)) (ci := 5) (v := .int r2.1) (C := RX5) (T := TX5) (N := 29) hx hb hts hinX5 hown hK hP 0 rfl rfl 24 (by decide) w1 (fun _ h9 => h9) rfl dX5_rests_25 ?_
    obtain ⟨r4, er4, hu⟩ := lxb_o hu
    refine hg_ci (va_runV (As := [.int r2.1]) (rest := [.ref o_h]) ⟨hx, hb, hml, hown, hts⟩ (c_X5_priceOf l dC dI cI cZ cM _ o_h r2.1 o_players o_bars o_price o_breath o_kind o_looks o_noise o_repeat o_now o_readPlayer o_readBar o_readPlayers o_readBars o_text o_length o_at o_faultAt o_acts o_next o_row o_heard o_heardOf o_heardBars o_heardPlays r2.1 o_hushSum o_seed o_isKept o_kept o_price_v np enp (by omega) nb enb (by omega) r4 er4) (cwV 1 hts gX5_rests_X5_priceOf rfl rfl rfl (by decide +kernel) ⟨Nat.le_of_ble_eq_true rfl, Nat.le_of_ble_eq_true rfl⟩) (hgPreV (C := RX5) (T := TX5) (N := 29) (ci := 5) (q0 := 0) hP hD hK hN [0, 2] rfl rfl rfl rfl) rfl rfl hl.1 rfl (lv_room (Nat.le_of_ble_eq_true rfl)) dX5_rests_28 ⟨Nat.zero_le _, Nat.zero_le _⟩) hP hD hS hA (wr := [(o_now, .inl (cI, 32, .inl r2.2)), (o_noise, .inl (cI, 8, .inl o_noise_v)), (o_kind, .inl (cI, 6, .inl o_kind_v)), (o_looks, .inl (cI, 6, .inl o_looks_v)), (o_repeat, .inl (cI, 8, .inl o_repeat_v))]) (wf := [(o_h, .inr (5, [.int o_players, .int o_bars, .ref o_price, .ref o_breath, .ref o_kind, .ref o_looks, .ref o_noise, .ref o_repeat, .ref o_now, .ref o_readPlayer, .ref o_readBar, .int o_readPlayers, .int o_readBars, .ref o_text, .int o_length, .int o_at, .int o_faultAt, .int o_acts, .int o_next, .ref o_row, .int o_heard, .ref o_heardOf, .ref o_heardBars, .ref o_heardPlays, .int r2.1, .int o_hushSum, .long o_seed, .ref o_isKept, .ref o_kept])), (o_now, .inl (cI, 32, .inl r2.2)), (o_price, .inl (cI, 6, .inl o_price_v)), (o_noise, .inl (cI, 8, .inl o_noise_v)), (o_kind, .inl (cI, 6, .inl o_kind_v)), (o_looks, .inl (cI, 6, .inl o_looks_v)), (o_repeat, .inl (cI, 8, .inl o_repeat_v))]) [0, 2] [1, 3, 4, 5, 6] [5, 0, 6, 1, 2, 3, 4] rfl rfl rfl (by decide) rfl rfl (fun H locs hP hD hS => ?_)
    refine va_put (D := (dC, dI)) (ci := 5) (v := .int r4) (ty := .int) (C := RX5) (T := TX5) (N := 29) hx hb hts hinX5 tyX5 tyX5_ok nmX5 hown hK hP hD hS 0 rfl rfl 25 (by decide) w2 (fun _ h9 => h9) rfl (by decide +kernel) rfl rfl (Nat.le_of_ble_eq_true rfl) dX5_rests_31 (fun H locs hP hD hS => ?_)
    have hP : va_P (dC, dI) vwCl [(o_h, .inr (5, [.int o_players, .int o_bars, .ref o_price, .ref o_breath, .ref o_kind, .ref o_looks, .ref o_noise, .ref o_repeat, .ref o_now, .ref o_readPlayer, .ref o_readBar, .int o_readPlayers, .int o_readBars, .ref o_text, .int o_length, .int o_at, .int o_faultAt, .int o_acts, .int o_next, .ref o_row, .int o_heard, .ref o_heardOf, .ref o_heardBars, .ref o_heardPlays, .int r2.1, .int r4, .long o_seed, .ref o_isKept, .ref o_kept])), (o_now, .inl (cI, 32, .inl r2.2)), (o_price, .inl (cI, 6, .inl o_price_v)), (o_noise, .inl (cI, 8, .inl o_noise_v)), (o_kind, .inl (cI, 6, .inl o_kind_v)), (o_looks, .inl (cI, 6, .inl o_looks_v)), (o_repeat, .inl (cI, 8, .inl o_repeat_v))] H := hP
    have hD : va_D A [(o_h, .inr (5, [.int o_players, .int o_bars, .ref o_price, .ref o_breath, .ref o_kind, .ref o_looks, .ref o_noise, .ref o_repeat, .ref o_now, .ref o_readPlayer, .ref o_readBar, .int o_readPlayers, .int o_readBars, .ref o_text, .int o_length, .int o_at, .int o_faultAt, .int o_acts, .int o_next, .ref o_row, .int o_heard, .ref o_heardOf, .ref o_heardBars, .ref o_heardPlays, .int r2.1, .int r4, .long o_seed, .ref o_isKept, .ref o_kept])), (o_now, .inl (cI, 32, .inl r2.2)), (o_price, .inl (cI, 6, .inl o_price_v)), (o_noise, .inl (cI, 8, .inl o_noise_v)), (o_kind, .inl (cI, 6, .inl o_kind_v)), (o_looks, .inl (cI, 6, .inl o_looks_v)), (o_repeat, .inl (cI, 8, .inl o_repeat_v))] := hD
    refine lv_iconst (v := 0) hx hb dX5_rests_34 (by decide) ?_
    refine lv_istore_n (lv' := [(2, .int 0), (0, .ref o_h), (1, .int x0)]) hx hb dX5_rests_35 rfl hl (by decide) rfl (fun ls hl => ?_)
    refine lv_bipush (v := (-9)) hx hb dX5_rests_36 (by decide) ?_
    refine lv_istore_n (lv' := [(3, .int (-9)), (2, .int 0), (0, .ref o_h), (1, .int x0)]) hx hb dX5_rests_38 rfl hl (by decide) rfl (fun ls hl => ?_)
    refine lv_iconst (v := 0) hx hb dX5_rests_39 (by decide) ?_
    refine lv_istore (lv' := [(4, .int 0), (3, .int (-9)), (2, .int 0), (0, .ref o_h), (1, .int x0)]) hx hb dX5_rests_40 hl (by decide) rfl (fun ls hl => ?_)
    obtain ⟨r9, er9, hu⟩ := lxb_o hu
    refine hg_loopFJ (T := Int32 × Int32 × (Nat → Int32)) (N := (itn 0 9)) (fun v42 => (mB v42.2.2)) (fun v42 => [(o_h, .inr (5, [.int o_players, .int o_bars, .ref o_price, .ref o_breath, .ref o_kind, .ref o_looks, .ref o_noise, .ref o_repeat, .ref o_now, .ref o_readPlayer, .ref o_readBar, .int o_readPlayers, .int o_readBars, .ref o_text, .int o_length, .int o_at, .int o_faultAt, .int o_acts, .int o_next, .ref o_row, .int o_heard, .ref o_heardOf, .ref o_heardBars, .ref o_heardPlays, .int r2.1, .int r4, .long o_seed, .ref o_isKept, .ref o_kept])), (o_now, .inl (cI, 32, .inl v42.2.2)), (o_price, .inl (cI, 6, .inl o_price_v)), (o_noise, .inl (cI, 8, .inl o_noise_v)), (o_kind, .inl (cI, 6, .inl o_kind_v)), (o_looks, .inl (cI, 6, .inl o_looks_v)), (o_repeat, .inl (cI, 8, .inl o_repeat_v))]) (fun k42 v42 => [(0, .ref o_h), (1, .int x0), (2, .int v42.1), (3, .int v42.2.1), (4, .int (nI k42))]) (fun k42 => l_X5_rests_42 o_players o_bars o_noise_v o_kind_v o_looks_v o_repeat_v r2 r4 (0, (-9), r2.2) k42) hB3 ?_ ?_ hP hD hS (lv_sub hl [3, 4, 2, 1, 0] rfl)
    · intro v42 hJ42 hv H locs ls hP hD hS hl
      obtain rfl : r9 = v42 := er9.trans hv.symm
      have hP : va_P (dC, dI) vwCl [(o_h, .inr (5, [.int o_players, .int o_bars, .ref o_price, .ref o_breath, .ref o_kind, .ref o_looks, .ref o_noise, .ref o_repeat, .ref o_now, .ref o_readPlayer, .ref o_readBar, .int o_readPlayers, .int o_readBars, .ref o_text, .int o_length, .int o_at, .int o_faultAt, .int o_acts, .int o_next, .ref o_row, .int o_heard, .ref o_heardOf, .ref o_heardBars, .ref o_heardPlays, .int r2.1, .int r4, .long o_seed, .ref o_isKept, .ref o_kept])), (o_now, .inl (cI, 32, .inl r9.2.2)), (o_price, .inl (cI, 6, .inl o_price_v)), (o_noise, .inl (cI, 8, .inl o_noise_v)), (o_kind, .inl (cI, 6, .inl o_kind_v)), (o_looks, .inl (cI, 6, .inl o_looks_v)), (o_repeat, .inl (cI, 8, .inl o_repeat_v))] H := hP
      have hD : va_D A [(o_h, .inr (5, [.int o_players, .int o_bars, .ref o_price, .ref o_breath, .ref o_kind, .ref o_looks, .ref o_noise, .ref o_repeat, .ref o_now, .ref o_readPlayer, .ref o_readBar, .int o_readPlayers, .int o_readBars, .ref o_text, .int o_length, .int o_at, .int o_faultAt, .int o_acts, .int o_next, .ref o_row, .int o_heard, .ref o_heardOf, .ref o_heardBars, .ref o_heardPlays, .int r2.1, .int r4, .long o_seed, .ref o_isKept, .ref o_kept])), (o_now, .inl (cI, 32, .inl r9.2.2)), (o_price, .inl (cI, 6, .inl o_price_v)), (o_noise, .inl (cI, 8, .inl o_noise_v)), (o_kind, .inl (cI, 6, .inl o_kind_v)), (o_looks, .inl (cI, 6, .inl o_looks_v)), (o_repeat, .inl (cI, 8, .inl o_repeat_v))] := hD
      have hl : lv_has ls 5 [(0, .ref o_h), (1, .int x0), (2, .int r9.1), (3, .int r9.2.1), (4, .int (nI (itn 0 9)))] := hl
      refine lv_iload hx hb dX5_rests_42 (lv_at hl 4 rfl) ?_
      refine lv_bipush (v := 9) hx hb dX5_rests_44 (by decide) ?_
      refine lv_icmp_ge (tgt := 94) hx hb dX5_rests_46 (by decide) (fun c_46 => ?_) (fun c_46 => absurd hg_lo0 c_46)
      refine lv_iload_n hx hb dX5_rests_94 rfl (lv_at hl 1 rfl) ?_
      refine lv_if_ne (tgt := 102) hx hb dX5_rests_95 (by decide) (fun c_95 => ?_) (fun c_95 => ?_)
      · have hu := hu.trans (if_neg c_95)
        refine lv_iload_n hx hb dX5_rests_102 rfl (lv_at hl 3 rfl) ?_
        subst hu
        exact hg_ri hx hb hr hlk rfl hP hD hS dX5_rests_103
      · have hu := hu.trans (if_pos c_95)
        refine lv_iload_n hx hb dX5_rests_98 rfl (lv_at hl 2 rfl) ?_
        refine lv_goto (tgt := 103) hx hb dX5_rests_99 (by decide) ?_
        subst hu
        exact hg_ri hx hb hr hlk rfl hP hD hS dX5_rests_103
    · intro k42 hk v42 hJ42 hv w hw ih H locs ls hP hD hS hl
      have hw : w = b_X5_rests_42 o_players o_bars o_noise_v o_kind_v o_looks_v o_repeat_v r2 r4 k42 v42 := by rw [hw, hv]; rfl
      unfold b_X5_rests_42 at hw
      have hkb : k42 < 9 := Nat.lt_of_lt_of_le hk (by decide)
      have hP : va_P (dC, dI) vwCl [(o_h, .inr (5, [.int o_players, .int o_bars, .ref o_price, .ref o_breath, .ref o_kind, .ref o_looks, .ref o_noise, .ref o_repeat, .ref o_now, .ref o_readPlayer, .ref o_readBar, .int o_readPlayers, .int o_readBars, .ref o_text, .int o_length, .int o_at, .int o_faultAt, .int o_acts, .int o_next, .ref o_row, .int o_heard, .ref o_heardOf, .ref o_heardBars, .ref o_heardPlays, .int r2.1, .int r4, .long o_seed, .ref o_isKept, .ref o_kept])), (o_now, .inl (cI, 32, .inl v42.2.2)), (o_price, .inl (cI, 6, .inl o_price_v)), (o_noise, .inl (cI, 8, .inl o_noise_v)), (o_kind, .inl (cI, 6, .inl o_kind_v)), (o_looks, .inl (cI, 6, .inl o_looks_v)), (o_repeat, .inl (cI, 8, .inl o_repeat_v))] H := hP
      have hD : va_D A [(o_h, .inr (5, [.int o_players, .int o_bars, .ref o_price, .ref o_breath, .ref o_kind, .ref o_looks, .ref o_noise, .ref o_repeat, .ref o_now, .ref o_readPlayer, .ref o_readBar, .int o_readPlayers, .int o_readBars, .ref o_text, .int o_length, .int o_at, .int o_faultAt, .int o_acts, .int o_next, .ref o_row, .int o_heard, .ref o_heardOf, .ref o_heardBars, .ref o_heardPlays, .int r2.1, .int r4, .long o_seed, .ref o_isKept, .ref o_kept])), (o_now, .inl (cI, 32, .inl v42.2.2)), (o_price, .inl (cI, 6, .inl o_price_v)), (o_noise, .inl (cI, 8, .inl o_noise_v)), (o_kind, .inl (cI, 6, .inl o_kind_v)), (o_looks, .inl (cI, 6, .inl o_looks_v)), (o_repeat, .inl (cI, 8, .inl o_repeat_v))] := hD
      have hl : lv_has ls 5 [(0, .ref o_h), (1, .int x0), (2, .int v42.1), (3, .int v42.2.1), (4, .int (nI k42))] := hl
      refine lv_iload hx hb dX5_rests_42 (lv_at hl 4 rfl) ?_
      refine lv_bipush (v := 9) hx hb dX5_rests_44 (by decide) ?_
      refine lv_icmp_ge (tgt := 94) hx hb dX5_rests_46 (by decide) (fun c_46 => absurd c_46 (hg_lo1 hk)) (fun c_46 => ?_)
      refine lv_aload_n hx hb dX5_rests_49 rfl (lv_at hl 0 rfl) ?_
      refine lv_iload hx hb dX5_rests_50 (lv_at hl 4 rfl) ?_
      refine lv_iconst (v := 3) hx hb dX5_rests_52 (by decide) ?_
      refine lv_idiv hx hb dX5_rests_53 (by decide) ?_
      refine lv_iload hx hb dX5_rests_54 (lv_at hl 4 rfl) ?_
      refine lv_iconst (v := 3) hx hb dX5_rests_56 (by decide) ?_
      refine lv_irem hx hb dX5_rests_57 (by decide) ?_
      obtain ⟨r5, er5, hw⟩ := lxb_o hw
      refine hg_ciE (va_runV (As := [.int (nI k42 / 3), .int (nI k42 - nI k42 / 3 * 3)]) (rest := []) ⟨hx, hb, hml, hown, hts⟩ (c_X5_isRest l dC dI cI cZ cM _ o_h (nI k42 / 3) (nI k42 - nI k42 / 3 * 3) o_players o_bars o_price o_breath o_kind o_looks o_noise o_repeat o_now o_readPlayer o_readBar o_readPlayers o_readBars o_text o_length o_at o_faultAt o_acts o_next o_row o_heard o_heardOf o_heardBars o_heardPlays r2.1 r4 o_seed o_isKept o_kept v42.2.2 o_noise_v o_kind_v o_looks_v o_repeat_v np enp (by omega) nb enb (by omega) hJ42 r5 er5) (cwV 2 hts gX5_rests_X5_isRest rfl rfl rfl (by decide +kernel) ⟨Nat.le_of_ble_eq_true rfl, Nat.le_of_ble_eq_true rfl⟩) (hgPreV (C := RX5) (T := TX5) (N := 29) (ci := 5) (q0 := 0) hP hD hK hN [0, 1, 3, 4, 5, 6] rfl rfl rfl rfl) rfl rfl hl.1 rfl (lv_room (Nat.le_of_ble_eq_true rfl)) dX5_rests_58 ⟨Nat.zero_le _, Nat.zero_le _⟩) hP hD hS hA (wr := [(o_price, .inl (cI, 6, .inl o_price_v))]) (wf := [(o_h, .inr (5, [.int o_players, .int o_bars, .ref o_price, .ref o_breath, .ref o_kind, .ref o_looks, .ref o_noise, .ref o_repeat, .ref o_now, .ref o_readPlayer, .ref o_readBar, .int o_readPlayers, .int o_readBars, .ref o_text, .int o_length, .int o_at, .int o_faultAt, .int o_acts, .int o_next, .ref o_row, .int o_heard, .ref o_heardOf, .ref o_heardBars, .ref o_heardPlays, .int r2.1, .int r4, .long o_seed, .ref o_isKept, .ref o_kept])), (o_now, .inl (cI, 32, .inl r5.2)), (o_price, .inl (cI, 6, .inl o_price_v)), (o_noise, .inl (cI, 8, .inl o_noise_v)), (o_kind, .inl (cI, 6, .inl o_kind_v)), (o_looks, .inl (cI, 6, .inl o_looks_v)), (o_repeat, .inl (cI, 8, .inl o_repeat_v))]) [0, 1, 3, 4, 5, 6] [2] [1, 2, 0, 3, 4, 5, 6] rfl rfl rfl (by decide) rfl rfl (fun hB6 H locs hP hD hS => ?_)
      refine lv_if_eq (tgt := 88) hx hb dX5_rests_61 (by decide) (fun c_61 => ?_) (fun c_61 => ?_)
      · have hw := hw.trans (if_pos c_61)
        refine lv_iinc (v := nI (k42 + 1)) (lv' := [(4, .int (nI (k42 + 1))), (0, .ref o_h), (1, .int x0), (2, .int v42.1), (3, .int v42.2.1)]) hx hb dX5_rests_88 hl (k := 4) rfl (nI_1 k42) (by decide) rfl (fun ls hl => ?_)
        refine lv_goto (tgt := 42) hx hb dX5_rests_91 (by decide) ?_
        subst hw
        exact ih hB6 _ _ _ hP hD hS (lv_sub hl [1, 2, 3, 4, 0] rfl)
      · have hw := hw.trans (if_neg c_61)
        refine lv_iload_n hx hb dX5_rests_64 rfl (lv_at hl 2 rfl) ?_
        obtain ⟨z7, ez7, hw⟩ := lxb_o hw
        refine hg_cut (D := (dC, dI)) (A0 := A) (H0 := s.heap) (ws := [(o_h, .inr (5, [.int o_players, .int o_bars, .ref o_price, .ref o_breath, .ref o_kind, .ref o_looks, .ref o_noise, .ref o_repeat, .ref o_now, .ref o_readPlayer, .ref o_readBar, .int o_readPlayers, .int o_readBars, .ref o_text, .int o_length, .int o_at, .int o_faultAt, .int o_acts, .int o_next, .ref o_row, .int o_heard, .ref o_heardOf, .ref o_heardBars, .ref o_heardPlays, .int r2.1, .int r4, .long o_seed, .ref o_isKept, .ref o_kept])), (o_now, .inl (cI, 32, .inl r5.2)), (o_price, .inl (cI, 6, .inl o_price_v)), (o_noise, .inl (cI, 8, .inl o_noise_v)), (o_kind, .inl (cI, 6, .inl o_kind_v)), (o_looks, .inl (cI, 6, .inl o_looks_v)), (o_repeat, .inl (cI, 8, .inl o_repeat_v))]) (g := F0 m 84 ls [.int z7]) ?_ (fun hJ => ?_)
        · intro H locs hP hD hS
          refine lv_istore_n (lv' := [(3, .int z7), (0, .ref o_h), (1, .int x0), (2, .int v42.1), (4, .int (nI k42))]) hx hb dX5_rests_84 rfl hl (by decide) rfl (fun ls hl => ?_)
          obtain ⟨y8, ey8, hw⟩ := lxb_o hw
          refine lv_iinc (v := y8) (lv' := [(2, .int y8), (3, .int z7), (0, .ref o_h), (1, .int x0), (4, .int (nI k42))]) hx hb dX5_rests_85 hl (k := 3) rfl ((congrArg (fun q : Int32 => v42.1 + q) (by decide : Int32.ofInt (1) = (1 : Int32))).trans ey8.symm) (by decide) rfl (fun ls hl => ?_)
          refine lv_iinc (v := nI (k42 + 1)) (lv' := [(4, .int (nI (k42 + 1))), (2, .int y8), (3, .int z7), (0, .ref o_h), (1, .int x0)]) hx hb dX5_rests_88 hl (k := 4) rfl (nI_1 k42) (by decide) rfl (fun ls hl => ?_)
          refine lv_goto (tgt := 42) hx hb dX5_rests_91 (by decide) ?_
          subst hw
          exact ih hB6 _ _ _ hP hD hS (lv_sub hl [3, 4, 1, 2, 0] rfl)
        · refine lv_if_ne (tgt := 83) hx hb dX5_rests_65 (by decide) (fun c_65 => ?_) (fun c_65 => ?_)
          · have ez7 := ez7.trans (if_neg c_65)
            refine lv_iload_n hx hb dX5_rests_83 rfl (lv_at hl 3 rfl) ?_
            subst ez7
            exact hJ _ _ hP hD hS
          · have ez7 := ez7.trans (if_pos c_65)
            refine lv_bipush (v := 10) hx hb dX5_rests_68 (by decide) ?_
            refine lv_iload hx hb dX5_rests_70 (lv_at hl 4 rfl) ?_
            refine lv_iconst (v := 3) hx hb dX5_rests_72 (by decide) ?_
            refine lv_idiv hx hb dX5_rests_73 (by decide) ?_
            refine lv_imul hx hb dX5_rests_74 ?_
            refine lv_iload hx hb dX5_rests_75 (lv_at hl 4 rfl) ?_
            refine lv_iconst (v := 3) hx hb dX5_rests_77 (by decide) ?_
            refine lv_irem hx hb dX5_rests_78 (by decide) ?_
            refine lv_iadd hx hb dX5_rests_79 ?_
            refine lv_goto (tgt := 84) hx hb dX5_rests_80 (by decide) ?_
            subst ez7
            exact hJ _ _ hP hD hS
  · have hu := hu.trans (if_pos c_7)
    refine lv_bipush (v := (-2)) hx hb dX5_rests_10 (by decide) ?_
    subst hu
    exact hg_ri hx hb hr hlk rfl hP hD hS dX5_rests_12

set_option maxHeartbeats 4000000 in
set_option maxRecDepth 100000 in
theorem c_X5_power (l : Launch) (dC : Nat → ClassId) (dI : Nat → Nat → Nat) (cI cZ cM : ClassId) (sz : Nat) (x0 : Int32) (x1 : Int32) (u : Int32) (hu : u = f_X5_power x0 x1) : Met l yX5_power wsX5_power { frames := 0, cells := 0, slots := 0, locals := 0 } (hgPc [.int x0, .int x1] (dC, dI) cI cZ cM [] sz) (hgQi (dC, dI) u [] (va_A [] sz)) 0 0 (va_A [] sz) := by
  refine hg_ofW (cc := cX5_power) (maxL := 4) (ret := (some .int)) (own := RX5) (fun A => hgQi (dC, dI) u [] A) rfl (by decide) rfl (Nat.le_of_ble_eq_true rfl) ?_
  intro p e s m below meth c ls A hsz hx hb hr hml hown hts hlk hnm hK hN hA hP hD hS hl
  subst hsz
  have hl : lv_has ls 4 [(0, .int x0), (1, .int x1)] := hl
  unfold f_X5_power at hu
  refine lv_iconst (v := 1) hx hb dX5_power_0 (by decide) ?_
  refine lv_istore_n (lv' := [(2, .int 1), (0, .int x0), (1, .int x1)]) hx hb dX5_power_1 rfl hl (by decide) rfl (fun ls hl => ?_)
  refine lv_iconst (v := 0) hx hb dX5_power_2 (by decide) ?_
  refine lv_istore_n (lv' := [(3, .int 0), (2, .int 1), (0, .int x0), (1, .int x1)]) hx hb dX5_power_3 rfl hl (by decide) rfl (fun ls hl => ?_)
  obtain ⟨r1, er1, hu⟩ := lxb_o hu
  refine hg_loopF (T := Int32) (N := (itn 0 x1)) (fun v4 => []) (fun k4 v4 => [(0, .int x0), (1, .int x1), (2, .int v4), (3, .int (nI k4))]) (fun k4 => l_X5_power_4 x0 1 k4) ?_ ?_ hP hD hS (lv_sub hl [2, 3, 1, 0] rfl)
  · intro v4 hv H locs ls hP hD hS hl
    obtain rfl : r1 = v4 := er1.trans hv.symm
    have hP : va_P (dC, dI) vwCl [] H := hP
    have hD : va_D A [] := hD
    have hl : lv_has ls 4 [(0, .int x0), (1, .int x1), (2, .int r1), (3, .int (nI (itn 0 x1)))] := hl
    refine lv_iload_n hx hb dX5_power_4 rfl (lv_at hl 3 rfl) ?_
    refine lv_iload_n hx hb dX5_power_5 rfl (lv_at hl 1 rfl) ?_
    refine lv_icmp_ge (tgt := 19) hx hb dX5_power_6 (by decide) (fun c_6 => ?_) (fun c_6 => absurd hg_lo0 c_6)
    refine lv_iload_n hx hb dX5_power_19 rfl (lv_at hl 2 rfl) ?_
    subst hu
    exact hg_ri hx hb hr hlk rfl hP hD hS dX5_power_20
  · intro k4 hk v4 hv w hw ih H locs ls hP hD hS hl
    have hw : w = b_X5_power_4 x0 k4 v4 := by rw [hw, hv]; rfl
    unfold b_X5_power_4 at hw
    have hP : va_P (dC, dI) vwCl [] H := hP
    have hD : va_D A [] := hD
    have hl : lv_has ls 4 [(0, .int x0), (1, .int x1), (2, .int v4), (3, .int (nI k4))] := hl
    refine lv_iload_n hx hb dX5_power_4 rfl (lv_at hl 3 rfl) ?_
    refine lv_iload_n hx hb dX5_power_5 rfl (lv_at hl 1 rfl) ?_
    refine lv_icmp_ge (tgt := 19) hx hb dX5_power_6 (by decide) (fun c_6 => absurd c_6 (hg_lo1 hk)) (fun c_6 => ?_)
    refine lv_iload_n hx hb dX5_power_9 rfl (lv_at hl 2 rfl) ?_
    refine lv_iload_n hx hb dX5_power_10 rfl (lv_at hl 0 rfl) ?_
    refine lv_imul hx hb dX5_power_11 ?_
    refine lv_istore_n (lv' := [(2, .int (v4 * x0)), (0, .int x0), (1, .int x1), (3, .int (nI k4))]) hx hb dX5_power_12 rfl hl (by decide) rfl (fun ls hl => ?_)
    refine lv_iinc (v := nI (k4 + 1)) (lv' := [(3, .int (nI (k4 + 1))), (2, .int (v4 * x0)), (0, .int x0), (1, .int x1)]) hx hb dX5_power_13 hl (k := 3) rfl (nI_1 k4) (by decide) rfl (fun ls hl => ?_)
    refine lv_goto (tgt := 4) hx hb dX5_power_16 (by decide) ?_
    subst hw
    exact ih _ _ _ hP hD hS (lv_sub hl [2, 3, 1, 0] rfl)

set_option maxHeartbeats 4000000 in
set_option maxRecDepth 100000 in
theorem c_X5_strings (l : Launch) (dC : Nat → ClassId) (dI : Nat → Nat → Nat) (cI cZ cM : ClassId) (sz : Nat) (o_h : Nat) (x0 : Int32) (x1 : Int32) (x2 : Int32) (o_players : Int32) (o_bars : Int32) (o_price : Nat) (o_breath : Nat) (o_kind : Nat) (o_looks : Nat) (o_noise : Nat) (o_repeat : Nat) (o_now : Nat) (o_readPlayer : Nat) (o_readBar : Nat) (o_readPlayers : Int32) (o_readBars : Int32) (o_text : Nat) (o_length : Int32) (o_at : Int32) (o_faultAt : Int32) (o_acts : Int32) (o_next : Int32) (o_row : Nat) (o_heard : Int32) (o_heardOf : Nat) (o_heardBars : Nat) (o_heardPlays : Nat) (o_hushWho : Int32) (o_hushSum : Int32) (o_seed : Int64) (o_isKept : Nat) (o_kept : Nat) (o_now_v : Nat → Int32) (o_noise_v : Nat → Int32) (o_kind_v : Nat → Int32) (o_looks_v : Nat → Int32) (o_repeat_v : Nat → Int32) (np : Nat) (enp : o_players = nI np) (hnp : np ≤ 6) (nb : Nat) (enb : o_bars = nI nb) (hnb : nb ≤ 8) (hB : mB o_now_v) (hsum : ∀ r2, r2 = f_X5_in (Int32.toInt64 x1) 0 10 → ¬ r2 = 0 → ∀ r3, r3 = f_X5_whoIs 0 0 o_players o_now_v → ∀ v, v = l_X5_strings_44 x0 x1 o_players o_bars o_noise_v o_kind_v o_looks_v o_repeat_v r3 (0, 0, o_now_v) (itn 0 (1 <<< (o_players &&& 31))) → -2147483648 < (Int32.toInt v.1) ∧ 0 < (Int32.toInt v.2.1)) (u : Int32 × (Nat → Int32)) (hu : u = f_X5_strings x0 x1 x2 o_players o_bars o_now_v o_noise_v o_kind_v o_looks_v o_repeat_v) : Met l yX5_strings wsX5_strings { frames := 6, cells := 0, slots := 0, locals := 140 } (hgPc [.ref o_h, .int x0, .int x1, .int x2] (dC, dI) cI cZ cM [(o_h, .inr (5, [.int o_players, .int o_bars, .ref o_price, .ref o_breath, .ref o_kind, .ref o_looks, .ref o_noise, .ref o_repeat, .ref o_now, .ref o_readPlayer, .ref o_readBar, .int o_readPlayers, .int o_readBars, .ref o_text, .int o_length, .int o_at, .int o_faultAt, .int o_acts, .int o_next, .ref o_row, .int o_heard, .ref o_heardOf, .ref o_heardBars, .ref o_heardPlays, .int o_hushWho, .int o_hushSum, .long o_seed, .ref o_isKept, .ref o_kept])), (o_now, .inl (cI, 32, .inl o_now_v)), (o_noise, .inl (cI, 8, .inl o_noise_v)), (o_kind, .inl (cI, 6, .inl o_kind_v)), (o_looks, .inl (cI, 6, .inl o_looks_v)), (o_repeat, .inl (cI, 8, .inl o_repeat_v))] sz) (hgQi (dC, dI) u.1 [(o_h, .inr (5, [.int o_players, .int o_bars, .ref o_price, .ref o_breath, .ref o_kind, .ref o_looks, .ref o_noise, .ref o_repeat, .ref o_now, .ref o_readPlayer, .ref o_readBar, .int o_readPlayers, .int o_readBars, .ref o_text, .int o_length, .int o_at, .int o_faultAt, .int o_acts, .int o_next, .ref o_row, .int o_heard, .ref o_heardOf, .ref o_heardBars, .ref o_heardPlays, .int o_hushWho, .int o_hushSum, .long o_seed, .ref o_isKept, .ref o_kept])), (o_now, .inl (cI, 32, .inl u.2)), (o_noise, .inl (cI, 8, .inl o_noise_v)), (o_kind, .inl (cI, 6, .inl o_kind_v)), (o_looks, .inl (cI, 6, .inl o_looks_v)), (o_repeat, .inl (cI, 8, .inl o_repeat_v))] (va_A [(o_h, .inr (5, [.int o_players, .int o_bars, .ref o_price, .ref o_breath, .ref o_kind, .ref o_looks, .ref o_noise, .ref o_repeat, .ref o_now, .ref o_readPlayer, .ref o_readBar, .int o_readPlayers, .int o_readBars, .ref o_text, .int o_length, .int o_at, .int o_faultAt, .int o_acts, .int o_next, .ref o_row, .int o_heard, .ref o_heardOf, .ref o_heardBars, .ref o_heardPlays, .int o_hushWho, .int o_hushSum, .long o_seed, .ref o_isKept, .ref o_kept])), (o_now, .inl (cI, 32, .inl o_now_v)), (o_noise, .inl (cI, 8, .inl o_noise_v)), (o_kind, .inl (cI, 6, .inl o_kind_v)), (o_looks, .inl (cI, 6, .inl o_looks_v)), (o_repeat, .inl (cI, 8, .inl o_repeat_v))] sz)) 0 0 (va_A [(o_h, .inr (5, [.int o_players, .int o_bars, .ref o_price, .ref o_breath, .ref o_kind, .ref o_looks, .ref o_noise, .ref o_repeat, .ref o_now, .ref o_readPlayer, .ref o_readBar, .int o_readPlayers, .int o_readBars, .ref o_text, .int o_length, .int o_at, .int o_faultAt, .int o_acts, .int o_next, .ref o_row, .int o_heard, .ref o_heardOf, .ref o_heardBars, .ref o_heardPlays, .int o_hushWho, .int o_hushSum, .long o_seed, .ref o_isKept, .ref o_kept])), (o_now, .inl (cI, 32, .inl o_now_v)), (o_noise, .inl (cI, 8, .inl o_noise_v)), (o_kind, .inl (cI, 6, .inl o_kind_v)), (o_looks, .inl (cI, 6, .inl o_looks_v)), (o_repeat, .inl (cI, 8, .inl o_repeat_v))] sz) := by
  refine hg_ofW (cc := cX5_strings) (maxL := 9) (ret := (some .int)) (own := RX5) (fun A => hgQi (dC, dI) u.1 [(o_h, .inr (5, [.int o_players, .int o_bars, .ref o_price, .ref o_breath, .ref o_kind, .ref o_looks, .ref o_noise, .ref o_repeat, .ref o_now, .ref o_readPlayer, .ref o_readBar, .int o_readPlayers, .int o_readBars, .ref o_text, .int o_length, .int o_at, .int o_faultAt, .int o_acts, .int o_next, .ref o_row, .int o_heard, .ref o_heardOf, .ref o_heardBars, .ref o_heardPlays, .int o_hushWho, .int o_hushSum, .long o_seed, .ref o_isKept, .ref o_kept])), (o_now, .inl (cI, 32, .inl u.2)), (o_noise, .inl (cI, 8, .inl o_noise_v)), (o_kind, .inl (cI, 6, .inl o_kind_v)), (o_looks, .inl (cI, 6, .inl o_looks_v)), (o_repeat, .inl (cI, 8, .inl o_repeat_v))] A) rfl (by decide) rfl (Nat.le_of_ble_eq_true rfl) ?_
  intro p e s m below meth c ls A hsz hx hb hr hml hown hts hlk hnm hK hN hA hP hD hS hl
  subst hsz
  have w1 := hts (.constantLong RX5 142 (9)) (List.mem_of_getElem? (i := 1) rfl)
  have w2 := hts (.constantLong RX5 226 (10)) (List.mem_of_getElem? (i := 2) rfl)
  have w3 := hts (.fieldLink RX5 93 "HatGoesRoundModel" "players" "I") (List.mem_of_getElem? (i := 3) rfl)
  have hinX5 : ∀ w ∈ u_ws RX5 TX5 29, w ∈ wsX5_strings := fun _ h => List.mem_cons_of_mem _ (List.mem_append_right _ h)
  have hl : lv_has ls 9 [(0, .ref o_h), (1, .int x0), (2, .int x1), (3, .int x2)] := hl
  unfold f_X5_strings at hu
  refine lv_iload_n hx hb dX5_strings_0 rfl (lv_at hl 1 rfl) ?_
  refine lv_i2l (v := (Int32.toInt64 x0)) hx hb dX5_strings_1 rfl ?_
  refine lv_lconst (v := 0) hx hb dX5_strings_2 (by decide) ?_
  refine lv_ldc2 (v := 9) hx hb hown w1 dX5_strings_3 ?_
  obtain ⟨r1, er1, hu⟩ := lxb_o hu
  refine hg_ci (va_runS (As := [.long (Int32.toInt64 x0), .long 0, .long 9]) (rest := []) ⟨hx, hb, hml, hown, hts⟩ (c_X5_in l dC dI cI cZ cM _ (Int32.toInt64 x0) 0 9 r1 er1) (va_cwS 3 hts gX5_strings_X5_in rfl rfl rfl (by decide +kernel) ⟨Nat.le_of_ble_eq_true rfl, Nat.le_of_ble_eq_true rfl⟩) (hgPreS hP hD hK hN [] rfl rfl) rfl rfl hl.1 rfl (lv_room (Nat.le_of_ble_eq_true rfl)) dX5_strings_6 ⟨Nat.zero_le _, Nat.zero_le _⟩) hP hD hS hA (wr := [(o_h, .inr (5, [.int o_players, .int o_bars, .ref o_price, .ref o_breath, .ref o_kind, .ref o_looks, .ref o_noise, .ref o_repeat, .ref o_now, .ref o_readPlayer, .ref o_readBar, .int o_readPlayers, .int o_readBars, .ref o_text, .int o_length, .int o_at, .int o_faultAt, .int o_acts, .int o_next, .ref o_row, .int o_heard, .ref o_heardOf, .ref o_heardBars, .ref o_heardPlays, .int o_hushWho, .int o_hushSum, .long o_seed, .ref o_isKept, .ref o_kept])), (o_now, .inl (cI, 32, .inl o_now_v)), (o_noise, .inl (cI, 8, .inl o_noise_v)), (o_kind, .inl (cI, 6, .inl o_kind_v)), (o_looks, .inl (cI, 6, .inl o_looks_v)), (o_repeat, .inl (cI, 8, .inl o_repeat_v))]) (wf := [(o_h, .inr (5, [.int o_players, .int o_bars, .ref o_price, .ref o_breath, .ref o_kind, .ref o_looks, .ref o_noise, .ref o_repeat, .ref o_now, .ref o_readPlayer, .ref o_readBar, .int o_readPlayers, .int o_readBars, .ref o_text, .int o_length, .int o_at, .int o_faultAt, .int o_acts, .int o_next, .ref o_row, .int o_heard, .ref o_heardOf, .ref o_heardBars, .ref o_heardPlays, .int o_hushWho, .int o_hushSum, .long o_seed, .ref o_isKept, .ref o_kept])), (o_now, .inl (cI, 32, .inl o_now_v)), (o_noise, .inl (cI, 8, .inl o_noise_v)), (o_kind, .inl (cI, 6, .inl o_kind_v)), (o_looks, .inl (cI, 6, .inl o_looks_v)), (o_repeat, .inl (cI, 8, .inl o_repeat_v))]) [] [0, 1, 2, 3, 4, 5] [0, 1, 2, 3, 4, 5] rfl rfl rfl (by decide) rfl rfl (fun H locs hP hD hS => ?_)
  refine lv_if_eq (tgt := 24) hx hb dX5_strings_9 (by decide) (fun c_9 => ?_) (fun c_9 => ?_)
  · have hu := hu.trans (if_pos c_9)
    refine lv_bipush (v := (-2)) hx hb dX5_strings_24 (by decide) ?_
    subst hu
    exact hg_ri hx hb hr hlk rfl hP hD hS dX5_strings_26
  · have hu := hu.trans (if_neg c_9)
    refine lv_iload_n hx hb dX5_strings_12 rfl (lv_at hl 2 rfl) ?_
    refine lv_i2l (v := (Int32.toInt64 x1)) hx hb dX5_strings_13 rfl ?_
    refine lv_lconst (v := 0) hx hb dX5_strings_14 (by decide) ?_
    refine lv_ldc2 (v := 10) hx hb hown w2 dX5_strings_15 ?_
    obtain ⟨r2, er2, hu⟩ := lxb_o hu
    refine hg_ci (va_runS (As := [.long (Int32.toInt64 x1), .long 0, .long 10]) (rest := []) ⟨hx, hb, hml, hown, hts⟩ (c_X5_in l dC dI cI cZ cM _ (Int32.toInt64 x1) 0 10 r2 er2) (va_cwS 3 hts gX5_strings_X5_in rfl rfl rfl (by decide +kernel) ⟨Nat.le_of_ble_eq_true rfl, Nat.le_of_ble_eq_true rfl⟩) (hgPreS hP hD hK hN [] rfl rfl) rfl rfl hl.1 rfl (lv_room (Nat.le_of_ble_eq_true rfl)) dX5_strings_18 ⟨Nat.zero_le _, Nat.zero_le _⟩) hP hD hS hA (wr := [(o_h, .inr (5, [.int o_players, .int o_bars, .ref o_price, .ref o_breath, .ref o_kind, .ref o_looks, .ref o_noise, .ref o_repeat, .ref o_now, .ref o_readPlayer, .ref o_readBar, .int o_readPlayers, .int o_readBars, .ref o_text, .int o_length, .int o_at, .int o_faultAt, .int o_acts, .int o_next, .ref o_row, .int o_heard, .ref o_heardOf, .ref o_heardBars, .ref o_heardPlays, .int o_hushWho, .int o_hushSum, .long o_seed, .ref o_isKept, .ref o_kept])), (o_now, .inl (cI, 32, .inl o_now_v)), (o_noise, .inl (cI, 8, .inl o_noise_v)), (o_kind, .inl (cI, 6, .inl o_kind_v)), (o_looks, .inl (cI, 6, .inl o_looks_v)), (o_repeat, .inl (cI, 8, .inl o_repeat_v))]) (wf := [(o_h, .inr (5, [.int o_players, .int o_bars, .ref o_price, .ref o_breath, .ref o_kind, .ref o_looks, .ref o_noise, .ref o_repeat, .ref o_now, .ref o_readPlayer, .ref o_readBar, .int o_readPlayers, .int o_readBars, .ref o_text, .int o_length, .int o_at, .int o_faultAt, .int o_acts, .int o_next, .ref o_row, .int o_heard, .ref o_heardOf, .ref o_heardBars, .ref o_heardPlays, .int o_hushWho, .int o_hushSum, .long o_seed, .ref o_isKept, .ref o_kept])), (o_now, .inl (cI, 32, .inl o_now_v)), (o_noise, .inl (cI, 8, .inl o_noise_v)), (o_kind, .inl (cI, 6, .inl o_kind_v)), (o_looks, .inl (cI, 6, .inl o_looks_v)), (o_repeat, .inl (cI, 8, .inl o_repeat_v))]) [] [0, 1, 2, 3, 4, 5] [0, 1, 2, 3, 4, 5] rfl rfl rfl (by decide) rfl rfl (fun H locs hP hD hS => ?_)
    refine lv_if_ne (tgt := 27) hx hb dX5_strings_21 (by decide) (fun c_21 => ?_) (fun c_21 => ?_)
    · have hu := hu.trans (if_neg c_21)
      refine lv_aload_n hx hb dX5_strings_27 rfl (lv_at hl 0 rfl) ?_
      refine lv_iconst (v := 0) hx hb dX5_strings_28 (by decide) ?_
      refine lv_iconst (v := 0) hx hb dX5_strings_29 (by decide) ?_
      obtain ⟨r3, er3, hu⟩ := lxb_o hu
      refine hg_ci (va_runV (As := [.int 0, .int 0]) (rest := []) ⟨hx, hb, hml, hown, hts⟩ (c_X5_whoIs l dC dI cI cZ cM _ o_h 0 0 o_players o_bars o_price o_breath o_kind o_looks o_noise o_repeat o_now o_readPlayer o_readBar o_readPlayers o_readBars o_text o_length o_at o_faultAt o_acts o_next o_row o_heard o_heardOf o_heardBars o_heardPlays o_hushWho o_hushSum o_seed o_isKept o_kept o_now_v np enp (by omega) nb enb (by omega) 0 (show (0 : Int32) = nI 0 from rfl) (by omega) r3 er3) (cwV 2 hts gX5_strings_X5_whoIs rfl rfl rfl (by decide +kernel) ⟨Nat.le_of_ble_eq_true rfl, Nat.le_of_ble_eq_true rfl⟩) (hgPreV (C := RX5) (T := TX5) (N := 29) (ci := 5) (q0 := 0) hP hD hK hN [0, 1] rfl rfl rfl rfl) rfl rfl hl.1 rfl (lv_room (Nat.le_of_ble_eq_true rfl)) dX5_strings_30 ⟨Nat.zero_le _, Nat.zero_le _⟩) hP hD hS hA (wr := [(o_noise, .inl (cI, 8, .inl o_noise_v)), (o_kind, .inl (cI, 6, .inl o_kind_v)), (o_looks, .inl (cI, 6, .inl o_looks_v)), (o_repeat, .inl (cI, 8, .inl o_repeat_v))]) (wf := [(o_h, .inr (5, [.int o_players, .int o_bars, .ref o_price, .ref o_breath, .ref o_kind, .ref o_looks, .ref o_noise, .ref o_repeat, .ref o_now, .ref o_readPlayer, .ref o_readBar, .int o_readPlayers, .int o_readBars, .ref o_text, .int o_length, .int o_at, .int o_faultAt, .int o_acts, .int o_next, .ref o_row, .int o_heard, .ref o_heardOf, .ref o_heardBars, .ref o_heardPlays, .int o_hushWho, .int o_hushSum, .long o_seed, .ref o_isKept, .ref o_kept])), (o_now, .inl (cI, 32, .inl o_now_v)), (o_noise, .inl (cI, 8, .inl o_noise_v)), (o_kind, .inl (cI, 6, .inl o_kind_v)), (o_looks, .inl (cI, 6, .inl o_looks_v)), (o_repeat, .inl (cI, 8, .inl o_repeat_v))]) [0, 1] [2, 3, 4, 5] [4, 5, 0, 1, 2, 3] rfl rfl rfl (by decide) rfl rfl (fun H locs hP hD hS => ?_)
      refine lv_istore (lv' := [(4, .int r3), (0, .ref o_h), (1, .int x0), (2, .int x1), (3, .int x2)]) hx hb dX5_strings_33 hl (by decide) rfl (fun ls hl => ?_)
      refine lv_iconst (v := 0) hx hb dX5_strings_35 (by decide) ?_
      refine lv_istore (lv' := [(5, .int 0), (4, .int r3), (0, .ref o_h), (1, .int x0), (2, .int x1), (3, .int x2)]) hx hb dX5_strings_36 hl (by decide) rfl (fun ls hl => ?_)
      refine lv_iconst (v := 0) hx hb dX5_strings_38 (by decide) ?_
      refine lv_istore (lv' := [(6, .int 0), (5, .int 0), (4, .int r3), (0, .ref o_h), (1, .int x0), (2, .int x1), (3, .int x2)]) hx hb dX5_strings_39 hl (by decide) rfl (fun ls hl => ?_)
      refine lv_iconst (v := 0) hx hb dX5_strings_41 (by decide) ?_
      refine lv_istore (lv' := [(7, .int 0), (6, .int 0), (5, .int 0), (4, .int r3), (0, .ref o_h), (1, .int x0), (2, .int x1), (3, .int x2)]) hx hb dX5_strings_42 hl (by decide) rfl (fun ls hl => ?_)
      obtain ⟨r17, er17, hu⟩ := lxb_o hu
      refine hg_loopFJ (T := Int32 × Int32 × (Nat → Int32)) (N := (itn 0 (1 <<< (o_players &&& 31)))) (fun v44 => (mB v44.2.2)) (fun v44 => [(o_h, .inr (5, [.int o_players, .int o_bars, .ref o_price, .ref o_breath, .ref o_kind, .ref o_looks, .ref o_noise, .ref o_repeat, .ref o_now, .ref o_readPlayer, .ref o_readBar, .int o_readPlayers, .int o_readBars, .ref o_text, .int o_length, .int o_at, .int o_faultAt, .int o_acts, .int o_next, .ref o_row, .int o_heard, .ref o_heardOf, .ref o_heardBars, .ref o_heardPlays, .int o_hushWho, .int o_hushSum, .long o_seed, .ref o_isKept, .ref o_kept])), (o_now, .inl (cI, 32, .inl v44.2.2)), (o_noise, .inl (cI, 8, .inl o_noise_v)), (o_kind, .inl (cI, 6, .inl o_kind_v)), (o_looks, .inl (cI, 6, .inl o_looks_v)), (o_repeat, .inl (cI, 8, .inl o_repeat_v))]) (fun k44 v44 => [(0, .ref o_h), (1, .int x0), (2, .int x1), (3, .int x2), (4, .int r3), (5, .int v44.1), (6, .int v44.2.1), (7, .int (nI k44))]) (fun k44 => l_X5_strings_44 x0 x1 o_players o_bars o_noise_v o_kind_v o_looks_v o_repeat_v r3 (0, 0, o_now_v) k44) hB ?_ ?_ hP hD hS (lv_sub hl [4, 5, 6, 7, 3, 2, 1, 0] rfl)
      · intro v44 hJ44 hv H locs ls hP hD hS hl
        obtain rfl : r17 = v44 := er17.trans hv.symm
        have hP : va_P (dC, dI) vwCl [(o_h, .inr (5, [.int o_players, .int o_bars, .ref o_price, .ref o_breath, .ref o_kind, .ref o_looks, .ref o_noise, .ref o_repeat, .ref o_now, .ref o_readPlayer, .ref o_readBar, .int o_readPlayers, .int o_readBars, .ref o_text, .int o_length, .int o_at, .int o_faultAt, .int o_acts, .int o_next, .ref o_row, .int o_heard, .ref o_heardOf, .ref o_heardBars, .ref o_heardPlays, .int o_hushWho, .int o_hushSum, .long o_seed, .ref o_isKept, .ref o_kept])), (o_now, .inl (cI, 32, .inl r17.2.2)), (o_noise, .inl (cI, 8, .inl o_noise_v)), (o_kind, .inl (cI, 6, .inl o_kind_v)), (o_looks, .inl (cI, 6, .inl o_looks_v)), (o_repeat, .inl (cI, 8, .inl o_repeat_v))] H := hP
        have hD : va_D A [(o_h, .inr (5, [.int o_players, .int o_bars, .ref o_price, .ref o_breath, .ref o_kind, .ref o_looks, .ref o_noise, .ref o_repeat, .ref o_now, .ref o_readPlayer, .ref o_readBar, .int o_readPlayers, .int o_readBars, .ref o_text, .int o_length, .int o_at, .int o_faultAt, .int o_acts, .int o_next, .ref o_row, .int o_heard, .ref o_heardOf, .ref o_heardBars, .ref o_heardPlays, .int o_hushWho, .int o_hushSum, .long o_seed, .ref o_isKept, .ref o_kept])), (o_now, .inl (cI, 32, .inl r17.2.2)), (o_noise, .inl (cI, 8, .inl o_noise_v)), (o_kind, .inl (cI, 6, .inl o_kind_v)), (o_looks, .inl (cI, 6, .inl o_looks_v)), (o_repeat, .inl (cI, 8, .inl o_repeat_v))] := hD
        have hl : lv_has ls 9 [(0, .ref o_h), (1, .int x0), (2, .int x1), (3, .int x2), (4, .int r3), (5, .int r17.1), (6, .int r17.2.1), (7, .int (nI (itn 0 (1 <<< (o_players &&& 31)))))] := hl
        refine lv_iload hx hb dX5_strings_44 (lv_at hl 7 rfl) ?_
        refine lv_iconst (v := 1) hx hb dX5_strings_46 (by decide) ?_
        refine lv_aload_n hx hb dX5_strings_47 rfl (lv_at hl 0 rfl) ?_
        refine va_get (D := (dC, dI)) (ci := 5) (v := .int o_players) (C := RX5) (T := TX5) (N := 29) hx hb hts hinX5 hown hK hP 0 rfl rfl 0 (by decide) w3 (fun _ h9 => h9) rfl dX5_strings_48 ?_
        refine lv_ishl hx hb dX5_strings_51 ?_
        refine lv_icmp_ge (tgt := 144) hx hb dX5_strings_52 (by decide) (fun c_52 => ?_) (fun c_52 => absurd hg_lo0 c_52)
        refine lv_iload hx hb dX5_strings_144 (lv_at hl 5 rfl) ?_
        refine lv_iload hx hb dX5_strings_146 (lv_at hl 6 rfl) ?_
        obtain ⟨r18, er18, hu⟩ := lxb_o hu
        refine hg_ci (va_runS (As := [.int r17.1, .int r17.2.1]) (rest := []) ⟨hx, hb, hml, hown, hts⟩ (c_X5_common l dC dI cI cZ cM _ r17.1 r17.2.1 (hsum _ er2 c_21 _ er3 _ er17).1 (Int.le_of_lt (hsum _ er2 c_21 _ er3 _ er17).2) r18 er18) (va_cwS 2 hts gX5_strings_X5_common rfl rfl rfl (by decide +kernel) ⟨Nat.le_of_ble_eq_true rfl, Nat.le_of_ble_eq_true rfl⟩) (hgPreS hP hD hK hN [] rfl rfl) rfl rfl hl.1 rfl (lv_room (Nat.le_of_ble_eq_true rfl)) dX5_strings_148 ⟨Nat.zero_le _, Nat.zero_le _⟩) hP hD hS hA (wr := [(o_h, .inr (5, [.int o_players, .int o_bars, .ref o_price, .ref o_breath, .ref o_kind, .ref o_looks, .ref o_noise, .ref o_repeat, .ref o_now, .ref o_readPlayer, .ref o_readBar, .int o_readPlayers, .int o_readBars, .ref o_text, .int o_length, .int o_at, .int o_faultAt, .int o_acts, .int o_next, .ref o_row, .int o_heard, .ref o_heardOf, .ref o_heardBars, .ref o_heardPlays, .int o_hushWho, .int o_hushSum, .long o_seed, .ref o_isKept, .ref o_kept])), (o_now, .inl (cI, 32, .inl r17.2.2)), (o_noise, .inl (cI, 8, .inl o_noise_v)), (o_kind, .inl (cI, 6, .inl o_kind_v)), (o_looks, .inl (cI, 6, .inl o_looks_v)), (o_repeat, .inl (cI, 8, .inl o_repeat_v))]) (wf := [(o_h, .inr (5, [.int o_players, .int o_bars, .ref o_price, .ref o_breath, .ref o_kind, .ref o_looks, .ref o_noise, .ref o_repeat, .ref o_now, .ref o_readPlayer, .ref o_readBar, .int o_readPlayers, .int o_readBars, .ref o_text, .int o_length, .int o_at, .int o_faultAt, .int o_acts, .int o_next, .ref o_row, .int o_heard, .ref o_heardOf, .ref o_heardBars, .ref o_heardPlays, .int o_hushWho, .int o_hushSum, .long o_seed, .ref o_isKept, .ref o_kept])), (o_now, .inl (cI, 32, .inl r17.2.2)), (o_noise, .inl (cI, 8, .inl o_noise_v)), (o_kind, .inl (cI, 6, .inl o_kind_v)), (o_looks, .inl (cI, 6, .inl o_looks_v)), (o_repeat, .inl (cI, 8, .inl o_repeat_v))]) [] [0, 1, 2, 3, 4, 5] [0, 1, 2, 3, 4, 5] rfl rfl rfl (by decide) rfl rfl (fun H locs hP hD hS => ?_)
        refine lv_istore (lv' := [(7, .int r18), (0, .ref o_h), (1, .int x0), (2, .int x1), (3, .int x2), (4, .int r3), (5, .int r17.1), (6, .int r17.2.1)]) hx hb dX5_strings_151 hl (by decide) rfl (fun ls hl => ?_)
        refine lv_iload_n hx hb dX5_strings_153 rfl (lv_at hl 4 rfl) ?_
        refine lv_if_eq (tgt := 165) hx hb dX5_strings_154 (by decide) (fun c_154 => ?_) (fun c_154 => ?_)
        · have hu := hu.trans (if_pos c_154)
          refine lv_iload hx hb dX5_strings_165 (lv_at hl 7 rfl) ?_
          refine lv_iload hx hb dX5_strings_167 (lv_at hl 0 rfl) ?_
          refine lv_idiv hx hb dX5_strings_169 (mCommonNe er18 (hsum _ er2 c_21 _ er3 _ er17).1 (hsum _ er2 c_21 _ er3 _ er17).2) ?_
          subst hu
          exact hg_ri hx hb hr hlk rfl hP hD hS dX5_strings_170
        · have hu := hu.trans (if_neg c_154)
          refine lv_iload hx hb dX5_strings_157 (lv_at hl 6 rfl) ?_
          refine lv_iload hx hb dX5_strings_159 (lv_at hl 0 rfl) ?_
          refine lv_idiv hx hb dX5_strings_161 (mCommonNe er18 (hsum _ er2 c_21 _ er3 _ er17).1 (hsum _ er2 c_21 _ er3 _ er17).2) ?_
          refine lv_goto (tgt := 170) hx hb dX5_strings_162 (by decide) ?_
          subst hu
          exact hg_ri hx hb hr hlk rfl hP hD hS dX5_strings_170
      · intro k44 hk v44 hJ44 hv w hw ih H locs ls hP hD hS hl
        have hw : w = b_X5_strings_44 x0 x1 o_players o_bars o_noise_v o_kind_v o_looks_v o_repeat_v r3 k44 v44 := by rw [hw, hv]; rfl
        unfold b_X5_strings_44 at hw
        have hP : va_P (dC, dI) vwCl [(o_h, .inr (5, [.int o_players, .int o_bars, .ref o_price, .ref o_breath, .ref o_kind, .ref o_looks, .ref o_noise, .ref o_repeat, .ref o_now, .ref o_readPlayer, .ref o_readBar, .int o_readPlayers, .int o_readBars, .ref o_text, .int o_length, .int o_at, .int o_faultAt, .int o_acts, .int o_next, .ref o_row, .int o_heard, .ref o_heardOf, .ref o_heardBars, .ref o_heardPlays, .int o_hushWho, .int o_hushSum, .long o_seed, .ref o_isKept, .ref o_kept])), (o_now, .inl (cI, 32, .inl v44.2.2)), (o_noise, .inl (cI, 8, .inl o_noise_v)), (o_kind, .inl (cI, 6, .inl o_kind_v)), (o_looks, .inl (cI, 6, .inl o_looks_v)), (o_repeat, .inl (cI, 8, .inl o_repeat_v))] H := hP
        have hD : va_D A [(o_h, .inr (5, [.int o_players, .int o_bars, .ref o_price, .ref o_breath, .ref o_kind, .ref o_looks, .ref o_noise, .ref o_repeat, .ref o_now, .ref o_readPlayer, .ref o_readBar, .int o_readPlayers, .int o_readBars, .ref o_text, .int o_length, .int o_at, .int o_faultAt, .int o_acts, .int o_next, .ref o_row, .int o_heard, .ref o_heardOf, .ref o_heardBars, .ref o_heardPlays, .int o_hushWho, .int o_hushSum, .long o_seed, .ref o_isKept, .ref o_kept])), (o_now, .inl (cI, 32, .inl v44.2.2)), (o_noise, .inl (cI, 8, .inl o_noise_v)), (o_kind, .inl (cI, 6, .inl o_kind_v)), (o_looks, .inl (cI, 6, .inl o_looks_v)), (o_repeat, .inl (cI, 8, .inl o_repeat_v))] := hD
        have hl : lv_has ls 9 [(0, .ref o_h), (1, .int x0), (2, .int x1), (3, .int x2), (4, .int r3), (5, .int v44.1), (6, .int v44.2.1), (7, .int (nI k44))] := hl
        refine lv_iload hx hb dX5_strings_44 (lv_at hl 7 rfl) ?_
        refine lv_iconst (v := 1) hx hb dX5_strings_46 (by decide) ?_
        refine lv_aload_n hx hb dX5_strings_47 rfl (lv_at hl 0 rfl) ?_
        refine va_get (D := (dC, dI)) (ci := 5) (v := .int o_players) (C := RX5) (T := TX5) (N := 29) hx hb hts hinX5 hown hK hP 0 rfl rfl 0 (by decide) w3 (fun _ h9 => h9) rfl dX5_strings_48 ?_
        refine lv_ishl hx hb dX5_strings_51 ?_
        refine lv_icmp_ge (tgt := 144) hx hb dX5_strings_52 (by decide) (fun c_52 => absurd c_52 (hg_lo1 hk)) (fun c_52 => ?_)
        refine lv_iload hx hb dX5_strings_55 (lv_at hl 7 rfl) ?_
        refine lv_iload hx hb dX5_strings_57 (lv_at hl 4 rfl) ?_
        refine lv_iconst (v := (-1)) hx hb dX5_strings_59 (by decide) ?_
        refine lv_ixor hx hb dX5_strings_60 ?_
        refine lv_iand hx hb dX5_strings_61 ?_
        refine lv_if_ne (tgt := 138) hx hb dX5_strings_62 (by decide) (fun c_62 => ?_) (fun c_62 => ?_)
        · have hw := hw.trans (if_neg c_62)
          refine lv_iinc (v := nI (k44 + 1)) (lv' := [(7, .int (nI (k44 + 1))), (0, .ref o_h), (1, .int x0), (2, .int x1), (3, .int x2), (4, .int r3), (5, .int v44.1), (6, .int v44.2.1)]) hx hb dX5_strings_138 hl (k := 7) rfl (nI_1 k44) (by decide) rfl (fun ls hl => ?_)
          refine lv_goto (tgt := 44) hx hb dX5_strings_141 (by decide) ?_
          subst hw
          exact ih hJ44 _ _ _ hP hD hS (lv_sub hl [1, 2, 3, 4, 5, 6, 7, 0] rfl)
        · have hw := hw.trans (if_pos c_62)
          refine lv_iload_n hx hb dX5_strings_65 rfl (lv_at hl 2 rfl) ?_
          refine lv_iload hx hb dX5_strings_66 (lv_at hl 7 rfl) ?_
          obtain ⟨r4, er4, hw⟩ := lxb_o hw
          refine hg_ci (va_runS (As := [.int (nI k44)]) (rest := [.int x1]) ⟨hx, hb, hml, hown, hts⟩ (c_X5_ones l dC dI cI cZ cM _ (nI k44) r4 er4) (va_cwS 1 hts gX5_strings_X5_ones rfl rfl rfl (by decide +kernel) ⟨Nat.le_of_ble_eq_true rfl, Nat.le_of_ble_eq_true rfl⟩) (hgPreS hP hD hK hN [] rfl rfl) rfl rfl hl.1 rfl (lv_room (Nat.le_of_ble_eq_true rfl)) dX5_strings_68 ⟨Nat.zero_le _, Nat.zero_le _⟩) hP hD hS hA (wr := [(o_h, .inr (5, [.int o_players, .int o_bars, .ref o_price, .ref o_breath, .ref o_kind, .ref o_looks, .ref o_noise, .ref o_repeat, .ref o_now, .ref o_readPlayer, .ref o_readBar, .int o_readPlayers, .int o_readBars, .ref o_text, .int o_length, .int o_at, .int o_faultAt, .int o_acts, .int o_next, .ref o_row, .int o_heard, .ref o_heardOf, .ref o_heardBars, .ref o_heardPlays, .int o_hushWho, .int o_hushSum, .long o_seed, .ref o_isKept, .ref o_kept])), (o_now, .inl (cI, 32, .inl v44.2.2)), (o_noise, .inl (cI, 8, .inl o_noise_v)), (o_kind, .inl (cI, 6, .inl o_kind_v)), (o_looks, .inl (cI, 6, .inl o_looks_v)), (o_repeat, .inl (cI, 8, .inl o_repeat_v))]) (wf := [(o_h, .inr (5, [.int o_players, .int o_bars, .ref o_price, .ref o_breath, .ref o_kind, .ref o_looks, .ref o_noise, .ref o_repeat, .ref o_now, .ref o_readPlayer, .ref o_readBar, .int o_readPlayers, .int o_readBars, .ref o_text, .int o_length, .int o_at, .int o_faultAt, .int o_acts, .int o_next, .ref o_row, .int o_heard, .ref o_heardOf, .ref o_heardBars, .ref o_heardPlays, .int o_hushWho, .int o_hushSum, .long o_seed, .ref o_isKept, .ref o_kept])), (o_now, .inl (cI, 32, .inl v44.2.2)), (o_noise, .inl (cI, 8, .inl o_noise_v)), (o_kind, .inl (cI, 6, .inl o_kind_v)), (o_looks, .inl (cI, 6, .inl o_looks_v)), (o_repeat, .inl (cI, 8, .inl o_repeat_v))]) [] [0, 1, 2, 3, 4, 5] [0, 1, 2, 3, 4, 5] rfl rfl rfl (by decide) rfl rfl (fun H locs hP hD hS => ?_)
          obtain ⟨r5, er5, hw⟩ := lxb_o hw
          refine hg_ci (va_runS (As := [.int x1, .int r4]) (rest := []) ⟨hx, hb, hml, hown, hts⟩ (c_X5_power l dC dI cI cZ cM _ x1 r4 r5 er5) (va_cwS 2 hts gX5_strings_X5_power rfl rfl rfl (by decide +kernel) ⟨Nat.le_of_ble_eq_true rfl, Nat.le_of_ble_eq_true rfl⟩) (hgPreS hP hD hK hN [] rfl rfl) rfl rfl hl.1 rfl (lv_room (Nat.le_of_ble_eq_true rfl)) dX5_strings_71 ⟨Nat.zero_le _, Nat.zero_le _⟩) hP hD hS hA (wr := [(o_h, .inr (5, [.int o_players, .int o_bars, .ref o_price, .ref o_breath, .ref o_kind, .ref o_looks, .ref o_noise, .ref o_repeat, .ref o_now, .ref o_readPlayer, .ref o_readBar, .int o_readPlayers, .int o_readBars, .ref o_text, .int o_length, .int o_at, .int o_faultAt, .int o_acts, .int o_next, .ref o_row, .int o_heard, .ref o_heardOf, .ref o_heardBars, .ref o_heardPlays, .int o_hushWho, .int o_hushSum, .long o_seed, .ref o_isKept, .ref o_kept])), (o_now, .inl (cI, 32, .inl v44.2.2)), (o_noise, .inl (cI, 8, .inl o_noise_v)), (o_kind, .inl (cI, 6, .inl o_kind_v)), (o_looks, .inl (cI, 6, .inl o_looks_v)), (o_repeat, .inl (cI, 8, .inl o_repeat_v))]) (wf := [(o_h, .inr (5, [.int o_players, .int o_bars, .ref o_price, .ref o_breath, .ref o_kind, .ref o_looks, .ref o_noise, .ref o_repeat, .ref o_now, .ref o_readPlayer, .ref o_readBar, .int o_readPlayers, .int o_readBars, .ref o_text, .int o_length, .int o_at, .int o_faultAt, .int o_acts, .int o_next, .ref o_row, .int o_heard, .ref o_heardOf, .ref o_heardBars, .ref o_heardPlays, .int o_hushWho, .int o_hushSum, .long o_seed, .ref o_isKept, .ref o_kept])), (o_now, .inl (cI, 32, .inl v44.2.2)), (o_noise, .inl (cI, 8, .inl o_noise_v)), (o_kind, .inl (cI, 6, .inl o_kind_v)), (o_looks, .inl (cI, 6, .inl o_looks_v)), (o_repeat, .inl (cI, 8, .inl o_repeat_v))]) [] [0, 1, 2, 3, 4, 5] [0, 1, 2, 3, 4, 5] rfl rfl rfl (by decide) rfl rfl (fun H locs hP hD hS => ?_)
          refine lv_bipush (v := 10) hx hb dX5_strings_74 (by decide) ?_
          refine lv_iload_n hx hb dX5_strings_76 rfl (lv_at hl 2 rfl) ?_
          refine lv_isub hx hb dX5_strings_77 ?_
          refine lv_iload hx hb dX5_strings_78 (lv_at hl 4 rfl) ?_
          obtain ⟨r6, er6, hw⟩ := lxb_o hw
          refine hg_ci (va_runS (As := [.int r3]) (rest := [.int (10 - x1), .int r5]) ⟨hx, hb, hml, hown, hts⟩ (c_X5_ones l dC dI cI cZ cM _ r3 r6 er6) (va_cwS 1 hts gX5_strings_X5_ones rfl rfl rfl (by decide +kernel) ⟨Nat.le_of_ble_eq_true rfl, Nat.le_of_ble_eq_true rfl⟩) (hgPreS hP hD hK hN [] rfl rfl) rfl rfl hl.1 rfl (lv_room (Nat.le_of_ble_eq_true rfl)) dX5_strings_80 ⟨Nat.zero_le _, Nat.zero_le _⟩) hP hD hS hA (wr := [(o_h, .inr (5, [.int o_players, .int o_bars, .ref o_price, .ref o_breath, .ref o_kind, .ref o_looks, .ref o_noise, .ref o_repeat, .ref o_now, .ref o_readPlayer, .ref o_readBar, .int o_readPlayers, .int o_readBars, .ref o_text, .int o_length, .int o_at, .int o_faultAt, .int o_acts, .int o_next, .ref o_row, .int o_heard, .ref o_heardOf, .ref o_heardBars, .ref o_heardPlays, .int o_hushWho, .int o_hushSum, .long o_seed, .ref o_isKept, .ref o_kept])), (o_now, .inl (cI, 32, .inl v44.2.2)), (o_noise, .inl (cI, 8, .inl o_noise_v)), (o_kind, .inl (cI, 6, .inl o_kind_v)), (o_looks, .inl (cI, 6, .inl o_looks_v)), (o_repeat, .inl (cI, 8, .inl o_repeat_v))]) (wf := [(o_h, .inr (5, [.int o_players, .int o_bars, .ref o_price, .ref o_breath, .ref o_kind, .ref o_looks, .ref o_noise, .ref o_repeat, .ref o_now, .ref o_readPlayer, .ref o_readBar, .int o_readPlayers, .int o_readBars, .ref o_text, .int o_length, .int o_at, .int o_faultAt, .int o_acts, .int o_next, .ref o_row, .int o_heard, .ref o_heardOf, .ref o_heardBars, .ref o_heardPlays, .int o_hushWho, .int o_hushSum, .long o_seed, .ref o_isKept, .ref o_kept])), (o_now, .inl (cI, 32, .inl v44.2.2)), (o_noise, .inl (cI, 8, .inl o_noise_v)), (o_kind, .inl (cI, 6, .inl o_kind_v)), (o_looks, .inl (cI, 6, .inl o_looks_v)), (o_repeat, .inl (cI, 8, .inl o_repeat_v))]) [] [0, 1, 2, 3, 4, 5] [0, 1, 2, 3, 4, 5] rfl rfl rfl (by decide) rfl rfl (fun H locs hP hD hS => ?_)
          refine lv_iload hx hb dX5_strings_83 (lv_at hl 7 rfl) ?_
          obtain ⟨r7, er7, hw⟩ := lxb_o hw
          refine hg_ci (va_runS (As := [.int (nI k44)]) (rest := [.int r6, .int (10 - x1), .int r5]) ⟨hx, hb, hml, hown, hts⟩ (c_X5_ones l dC dI cI cZ cM _ (nI k44) r7 er7) (va_cwS 1 hts gX5_strings_X5_ones rfl rfl rfl (by decide +kernel) ⟨Nat.le_of_ble_eq_true rfl, Nat.le_of_ble_eq_true rfl⟩) (hgPreS hP hD hK hN [] rfl rfl) rfl rfl hl.1 rfl (lv_room (Nat.le_of_ble_eq_true rfl)) dX5_strings_85 ⟨Nat.zero_le _, Nat.zero_le _⟩) hP hD hS hA (wr := [(o_h, .inr (5, [.int o_players, .int o_bars, .ref o_price, .ref o_breath, .ref o_kind, .ref o_looks, .ref o_noise, .ref o_repeat, .ref o_now, .ref o_readPlayer, .ref o_readBar, .int o_readPlayers, .int o_readBars, .ref o_text, .int o_length, .int o_at, .int o_faultAt, .int o_acts, .int o_next, .ref o_row, .int o_heard, .ref o_heardOf, .ref o_heardBars, .ref o_heardPlays, .int o_hushWho, .int o_hushSum, .long o_seed, .ref o_isKept, .ref o_kept])), (o_now, .inl (cI, 32, .inl v44.2.2)), (o_noise, .inl (cI, 8, .inl o_noise_v)), (o_kind, .inl (cI, 6, .inl o_kind_v)), (o_looks, .inl (cI, 6, .inl o_looks_v)), (o_repeat, .inl (cI, 8, .inl o_repeat_v))]) (wf := [(o_h, .inr (5, [.int o_players, .int o_bars, .ref o_price, .ref o_breath, .ref o_kind, .ref o_looks, .ref o_noise, .ref o_repeat, .ref o_now, .ref o_readPlayer, .ref o_readBar, .int o_readPlayers, .int o_readBars, .ref o_text, .int o_length, .int o_at, .int o_faultAt, .int o_acts, .int o_next, .ref o_row, .int o_heard, .ref o_heardOf, .ref o_heardBars, .ref o_heardPlays, .int o_hushWho, .int o_hushSum, .long o_seed, .ref o_isKept, .ref o_kept])), (o_now, .inl (cI, 32, .inl v44.2.2)), (o_noise, .inl (cI, 8, .inl o_noise_v)), (o_kind, .inl (cI, 6, .inl o_kind_v)), (o_looks, .inl (cI, 6, .inl o_looks_v)), (o_repeat, .inl (cI, 8, .inl o_repeat_v))]) [] [0, 1, 2, 3, 4, 5] [0, 1, 2, 3, 4, 5] rfl rfl rfl (by decide) rfl rfl (fun H locs hP hD hS => ?_)
          refine lv_isub hx hb dX5_strings_88 ?_
          obtain ⟨r8, er8, hw⟩ := lxb_o hw
          refine hg_ci (va_runS (As := [.int (10 - x1), .int (r6 - r7)]) (rest := [.int r5]) ⟨hx, hb, hml, hown, hts⟩ (c_X5_power l dC dI cI cZ cM _ (10 - x1) (r6 - r7) r8 er8) (va_cwS 2 hts gX5_strings_X5_power rfl rfl rfl (by decide +kernel) ⟨Nat.le_of_ble_eq_true rfl, Nat.le_of_ble_eq_true rfl⟩) (hgPreS hP hD hK hN [] rfl rfl) rfl rfl hl.1 rfl (lv_room (Nat.le_of_ble_eq_true rfl)) dX5_strings_89 ⟨Nat.zero_le _, Nat.zero_le _⟩) hP hD hS hA (wr := [(o_h, .inr (5, [.int o_players, .int o_bars, .ref o_price, .ref o_breath, .ref o_kind, .ref o_looks, .ref o_noise, .ref o_repeat, .ref o_now, .ref o_readPlayer, .ref o_readBar, .int o_readPlayers, .int o_readBars, .ref o_text, .int o_length, .int o_at, .int o_faultAt, .int o_acts, .int o_next, .ref o_row, .int o_heard, .ref o_heardOf, .ref o_heardBars, .ref o_heardPlays, .int o_hushWho, .int o_hushSum, .long o_seed, .ref o_isKept, .ref o_kept])), (o_now, .inl (cI, 32, .inl v44.2.2)), (o_noise, .inl (cI, 8, .inl o_noise_v)), (o_kind, .inl (cI, 6, .inl o_kind_v)), (o_looks, .inl (cI, 6, .inl o_looks_v)), (o_repeat, .inl (cI, 8, .inl o_repeat_v))]) (wf := [(o_h, .inr (5, [.int o_players, .int o_bars, .ref o_price, .ref o_breath, .ref o_kind, .ref o_looks, .ref o_noise, .ref o_repeat, .ref o_now, .ref o_readPlayer, .ref o_readBar, .int o_readPlayers, .int o_readBars, .ref o_text, .int o_length, .int o_at, .int o_faultAt, .int o_acts, .int o_next, .ref o_row, .int o_heard, .ref o_heardOf, .ref o_heardBars, .ref o_heardPlays, .int o_hushWho, .int o_hushSum, .long o_seed, .ref o_isKept, .ref o_kept])), (o_now, .inl (cI, 32, .inl v44.2.2)), (o_noise, .inl (cI, 8, .inl o_noise_v)), (o_kind, .inl (cI, 6, .inl o_kind_v)), (o_looks, .inl (cI, 6, .inl o_looks_v)), (o_repeat, .inl (cI, 8, .inl o_repeat_v))]) [] [0, 1, 2, 3, 4, 5] [0, 1, 2, 3, 4, 5] rfl rfl rfl (by decide) rfl rfl (fun H locs hP hD hS => ?_)
          refine lv_imul hx hb dX5_strings_92 ?_
          refine lv_istore (lv' := [(8, .int (r5 * r8)), (0, .ref o_h), (1, .int x0), (2, .int x1), (3, .int x2), (4, .int r3), (5, .int v44.1), (6, .int v44.2.1), (7, .int (nI k44))]) hx hb dX5_strings_93 hl (by decide) rfl (fun ls hl => ?_)
          refine lv_aload_n hx hb dX5_strings_95 rfl (lv_at hl 1 rfl) ?_
          obtain ⟨r9, er9, hw⟩ := lxb_o hw
          refine hg_cvE (va_runV (As := []) (rest := []) ⟨hx, hb, hml, hown, hts⟩ (c_X5_layTrial l dC dI cI cZ cM _ o_h o_players o_bars o_price o_breath o_kind o_looks o_noise o_repeat o_now o_readPlayer o_readBar o_readPlayers o_readBars o_text o_length o_at o_faultAt o_acts o_next o_row o_heard o_heardOf o_heardBars o_heardPlays o_hushWho o_hushSum o_seed o_isKept o_kept v44.2.2 np enp (by omega) nb enb (by omega) hJ44 r9 er9) (cwV 0 hts gX5_strings_X5_layTrial rfl rfl rfl (by decide +kernel) ⟨Nat.le_of_ble_eq_true rfl, Nat.le_of_ble_eq_true rfl⟩) (hgPreV (C := RX5) (T := TX5) (N := 29) (ci := 5) (q0 := 0) hP hD hK hN [0, 1] rfl rfl rfl rfl) rfl rfl hl.1 rfl (lv_room (Nat.le_of_ble_eq_true rfl)) dX5_strings_96 ⟨Nat.zero_le _, Nat.zero_le _⟩) hP hD hS hA (wr := [(o_noise, .inl (cI, 8, .inl o_noise_v)), (o_kind, .inl (cI, 6, .inl o_kind_v)), (o_looks, .inl (cI, 6, .inl o_looks_v)), (o_repeat, .inl (cI, 8, .inl o_repeat_v))]) (wf := [(o_h, .inr (5, [.int o_players, .int o_bars, .ref o_price, .ref o_breath, .ref o_kind, .ref o_looks, .ref o_noise, .ref o_repeat, .ref o_now, .ref o_readPlayer, .ref o_readBar, .int o_readPlayers, .int o_readBars, .ref o_text, .int o_length, .int o_at, .int o_faultAt, .int o_acts, .int o_next, .ref o_row, .int o_heard, .ref o_heardOf, .ref o_heardBars, .ref o_heardPlays, .int o_hushWho, .int o_hushSum, .long o_seed, .ref o_isKept, .ref o_kept])), (o_now, .inl (cI, 32, .inl r9)), (o_noise, .inl (cI, 8, .inl o_noise_v)), (o_kind, .inl (cI, 6, .inl o_kind_v)), (o_looks, .inl (cI, 6, .inl o_looks_v)), (o_repeat, .inl (cI, 8, .inl o_repeat_v))]) [0, 1] [2, 3, 4, 5] [4, 5, 0, 1, 2, 3] rfl rfl rfl (by decide) rfl rfl (fun hB10 H locs hP hD hS => ?_)
          refine lv_aload_n hx hb dX5_strings_99 rfl (lv_at hl 1 rfl) ?_
          refine lv_iload hx hb dX5_strings_100 (lv_at hl 8 rfl) ?_
          refine lv_iconst (v := 2) hx hb dX5_strings_102 (by decide) ?_
          obtain ⟨r11, er11, hw⟩ := lxb_o hw
          refine hg_cvE (va_runV (As := [.int (nI k44), .int 2]) (rest := []) ⟨hx, hb, hml, hown, hts⟩ (c_X5_makeSome l dC dI cI cZ cM _ o_h (nI k44) 2 o_players o_bars o_price o_breath o_kind o_looks o_noise o_repeat o_now o_readPlayer o_readBar o_readPlayers o_readBars o_text o_length o_at o_faultAt o_acts o_next o_row o_heard o_heardOf o_heardBars o_heardPlays o_hushWho o_hushSum o_seed o_isKept o_kept r9 np enp (by omega) nb enb (by omega) hB10 r11 er11) (cwV 2 hts gX5_strings_X5_makeSome rfl rfl rfl (by decide +kernel) ⟨Nat.le_of_ble_eq_true rfl, Nat.le_of_ble_eq_true rfl⟩) (hgPreV (C := RX5) (T := TX5) (N := 29) (ci := 5) (q0 := 0) hP hD hK hN [0, 1] rfl rfl rfl rfl) rfl rfl hl.1 rfl (lv_room (Nat.le_of_ble_eq_true rfl)) dX5_strings_103 ⟨Nat.zero_le _, Nat.zero_le _⟩) hP hD hS hA (wr := [(o_noise, .inl (cI, 8, .inl o_noise_v)), (o_kind, .inl (cI, 6, .inl o_kind_v)), (o_looks, .inl (cI, 6, .inl o_looks_v)), (o_repeat, .inl (cI, 8, .inl o_repeat_v))]) (wf := [(o_h, .inr (5, [.int o_players, .int o_bars, .ref o_price, .ref o_breath, .ref o_kind, .ref o_looks, .ref o_noise, .ref o_repeat, .ref o_now, .ref o_readPlayer, .ref o_readBar, .int o_readPlayers, .int o_readBars, .ref o_text, .int o_length, .int o_at, .int o_faultAt, .int o_acts, .int o_next, .ref o_row, .int o_heard, .ref o_heardOf, .ref o_heardBars, .ref o_heardPlays, .int o_hushWho, .int o_hushSum, .long o_seed, .ref o_isKept, .ref o_kept])), (o_now, .inl (cI, 32, .inl r11)), (o_noise, .inl (cI, 8, .inl o_noise_v)), (o_kind, .inl (cI, 6, .inl o_kind_v)), (o_looks, .inl (cI, 6, .inl o_looks_v)), (o_repeat, .inl (cI, 8, .inl o_repeat_v))]) [0, 1] [2, 3, 4, 5] [4, 5, 0, 1, 2, 3] rfl rfl rfl (by decide) rfl rfl (fun hB12 H locs hP hD hS => ?_)
          refine lv_aload_n hx hb dX5_strings_106 rfl (lv_at hl 1 rfl) ?_
          refine lv_iload_n hx hb dX5_strings_107 rfl (lv_at hl 2 rfl) ?_
          obtain ⟨r13, er13, hw⟩ := lxb_o hw
          refine hg_ciE (va_runV (As := [.int x0]) (rest := []) ⟨hx, hb, hml, hown, hts⟩ (c_X5_goOn l dC dI cI cZ cM _ o_h x0 o_players o_bars o_price o_breath o_kind o_looks o_noise o_repeat o_now o_readPlayer o_readBar o_readPlayers o_readBars o_text o_length o_at o_faultAt o_acts o_next o_row o_heard o_heardOf o_heardBars o_heardPlays o_hushWho o_hushSum o_seed o_isKept o_kept r11 o_noise_v o_kind_v o_looks_v o_repeat_v np enp (by omega) nb enb (by omega) hB12 r13 er13) (cwV 1 hts gX5_strings_X5_goOn rfl rfl rfl (by decide +kernel) ⟨Nat.le_of_ble_eq_true rfl, Nat.le_of_ble_eq_true rfl⟩) (hgPreV (C := RX5) (T := TX5) (N := 29) (ci := 5) (q0 := 0) hP hD hK hN [0, 1, 2, 3, 4, 5] rfl rfl rfl rfl) rfl rfl hl.1 rfl (lv_room (Nat.le_of_ble_eq_true rfl)) dX5_strings_108 ⟨Nat.zero_le _, Nat.zero_le _⟩) hP hD hS hA (wr := []) (wf := [(o_h, .inr (5, [.int o_players, .int o_bars, .ref o_price, .ref o_breath, .ref o_kind, .ref o_looks, .ref o_noise, .ref o_repeat, .ref o_now, .ref o_readPlayer, .ref o_readBar, .int o_readPlayers, .int o_readBars, .ref o_text, .int o_length, .int o_at, .int o_faultAt, .int o_acts, .int o_next, .ref o_row, .int o_heard, .ref o_heardOf, .ref o_heardBars, .ref o_heardPlays, .int o_hushWho, .int o_hushSum, .long o_seed, .ref o_isKept, .ref o_kept])), (o_now, .inl (cI, 32, .inl r13.2)), (o_noise, .inl (cI, 8, .inl o_noise_v)), (o_kind, .inl (cI, 6, .inl o_kind_v)), (o_looks, .inl (cI, 6, .inl o_looks_v)), (o_repeat, .inl (cI, 8, .inl o_repeat_v))]) [0, 1, 2, 3, 4, 5] [] [0, 1, 2, 3, 4, 5] rfl rfl rfl (by decide) rfl rfl (fun hB14 H locs hP hD hS => ?_)
          refine lv_pop hx hb dX5_strings_111 rfl ?_
          refine lv_iload hx hb dX5_strings_112 (lv_at hl 7 rfl) ?_
          refine lv_iload hx hb dX5_strings_114 (lv_at hl 0 rfl) ?_
          refine lv_iadd hx hb dX5_strings_116 ?_
          refine lv_istore (lv' := [(6, .int (v44.2.1 + (r5 * r8))), (8, .int (r5 * r8)), (0, .ref o_h), (1, .int x0), (2, .int x1), (3, .int x2), (4, .int r3), (5, .int v44.1), (7, .int (nI k44))]) hx hb dX5_strings_117 hl (by decide) rfl (fun ls hl => ?_)
          refine lv_iload hx hb dX5_strings_119 (lv_at hl 7 rfl) ?_
          refine lv_aload_n hx hb dX5_strings_121 rfl (lv_at hl 2 rfl) ?_
          refine lv_iconst (v := 1) hx hb dX5_strings_122 (by decide) ?_
          obtain ⟨r15, er15, hw⟩ := lxb_o hw
          refine hg_ci (va_runV (As := [.int 1]) (rest := [.int v44.1]) ⟨hx, hb, hml, hown, hts⟩ (c_X5_isSilent l dC dI cI cZ cM _ o_h 1 o_players o_bars o_price o_breath o_kind o_looks o_noise o_repeat o_now o_readPlayer o_readBar o_readPlayers o_readBars o_text o_length o_at o_faultAt o_acts o_next o_row o_heard o_heardOf o_heardBars o_heardPlays o_hushWho o_hushSum o_seed o_isKept o_kept r13.2 np enp (by omega) nb enb (by omega) 1 (show (1 : Int32) = nI 1 from rfl) (by omega) r15 er15) (cwV 1 hts gX5_strings_X5_isSilent rfl rfl rfl (by decide +kernel) ⟨Nat.le_of_ble_eq_true rfl, Nat.le_of_ble_eq_true rfl⟩) (hgPreV (C := RX5) (T := TX5) (N := 29) (ci := 5) (q0 := 0) hP hD hK hN [0, 1] rfl rfl rfl rfl) rfl rfl hl.1 rfl (lv_room (Nat.le_of_ble_eq_true rfl)) dX5_strings_123 ⟨Nat.zero_le _, Nat.zero_le _⟩) hP hD hS hA (wr := [(o_noise, .inl (cI, 8, .inl o_noise_v)), (o_kind, .inl (cI, 6, .inl o_kind_v)), (o_looks, .inl (cI, 6, .inl o_looks_v)), (o_repeat, .inl (cI, 8, .inl o_repeat_v))]) (wf := [(o_h, .inr (5, [.int o_players, .int o_bars, .ref o_price, .ref o_breath, .ref o_kind, .ref o_looks, .ref o_noise, .ref o_repeat, .ref o_now, .ref o_readPlayer, .ref o_readBar, .int o_readPlayers, .int o_readBars, .ref o_text, .int o_length, .int o_at, .int o_faultAt, .int o_acts, .int o_next, .ref o_row, .int o_heard, .ref o_heardOf, .ref o_heardBars, .ref o_heardPlays, .int o_hushWho, .int o_hushSum, .long o_seed, .ref o_isKept, .ref o_kept])), (o_now, .inl (cI, 32, .inl r13.2)), (o_noise, .inl (cI, 8, .inl o_noise_v)), (o_kind, .inl (cI, 6, .inl o_kind_v)), (o_looks, .inl (cI, 6, .inl o_looks_v)), (o_repeat, .inl (cI, 8, .inl o_repeat_v))]) [0, 1] [2, 3, 4, 5] [4, 5, 0, 1, 2, 3] rfl rfl rfl (by decide) rfl rfl (fun H locs hP hD hS => ?_)
          obtain ⟨z16, ez16, hw⟩ := lxb_o hw
          refine hg_cut (D := (dC, dI)) (A0 := A) (H0 := s.heap) (ws := [(o_h, .inr (5, [.int o_players, .int o_bars, .ref o_price, .ref o_breath, .ref o_kind, .ref o_looks, .ref o_noise, .ref o_repeat, .ref o_now, .ref o_readPlayer, .ref o_readBar, .int o_readPlayers, .int o_readBars, .ref o_text, .int o_length, .int o_at, .int o_faultAt, .int o_acts, .int o_next, .ref o_row, .int o_heard, .ref o_heardOf, .ref o_heardBars, .ref o_heardPlays, .int o_hushWho, .int o_hushSum, .long o_seed, .ref o_isKept, .ref o_kept])), (o_now, .inl (cI, 32, .inl r13.2)), (o_noise, .inl (cI, 8, .inl o_noise_v)), (o_kind, .inl (cI, 6, .inl o_kind_v)), (o_looks, .inl (cI, 6, .inl o_looks_v)), (o_repeat, .inl (cI, 8, .inl o_repeat_v))]) (g := F0 m 135 ls [.int z16, .int v44.1]) ?_ (fun hJ => ?_)
          · intro H locs hP hD hS
            refine lv_iadd hx hb dX5_strings_135 ?_
            refine lv_istore (lv' := [(5, .int (v44.1 + z16)), (6, .int (v44.2.1 + (r5 * r8))), (8, .int (r5 * r8)), (0, .ref o_h), (1, .int x0), (2, .int x1), (3, .int x2), (4, .int r3), (7, .int (nI k44))]) hx hb dX5_strings_136 hl (by decide) rfl (fun ls hl => ?_)
            refine lv_iinc (v := nI (k44 + 1)) (lv' := [(7, .int (nI (k44 + 1))), (5, .int (v44.1 + z16)), (6, .int (v44.2.1 + (r5 * r8))), (8, .int (r5 * r8)), (0, .ref o_h), (1, .int x0), (2, .int x1), (3, .int x2), (4, .int r3)]) hx hb dX5_strings_138 hl (k := 8) rfl (nI_1 k44) (by decide) rfl (fun ls hl => ?_)
            refine lv_goto (tgt := 44) hx hb dX5_strings_141 (by decide) ?_
            subst hw
            exact ih hB14 _ _ _ hP hD hS (lv_sub hl [4, 5, 6, 7, 8, 1, 2, 0] rfl)
          · refine lv_if_eq (tgt := 134) hx hb dX5_strings_126 (by decide) (fun c_126 => ?_) (fun c_126 => ?_)
            · have ez16 := ez16.trans (if_pos c_126)
              refine lv_iconst (v := 0) hx hb dX5_strings_134 (by decide) ?_
              subst ez16
              exact hJ _ _ hP hD hS
            · have ez16 := ez16.trans (if_neg c_126)
              refine lv_iload hx hb dX5_strings_129 (lv_at hl 1 rfl) ?_
              refine lv_goto (tgt := 135) hx hb dX5_strings_131 (by decide) ?_
              subst ez16
              exact hJ _ _ hP hD hS
    · have hu := hu.trans (if_pos c_21)
      refine lv_bipush (v := (-2)) hx hb dX5_strings_24 (by decide) ?_
      subst hu
      exact hg_ri hx hb hr hlk rfl hP hD hS dX5_strings_26

set_option maxHeartbeats 4000000 in
set_option maxRecDepth 100000 in
theorem c_X5_seed (l : Launch) (dC : Nat → ClassId) (dI : Nat → Nat → Nat) (cI cZ cM : ClassId) (sz : Nat) (o_h : Nat) (x0 : Int64) (o_players : Int32) (o_bars : Int32) (o_price : Nat) (o_breath : Nat) (o_kind : Nat) (o_looks : Nat) (o_noise : Nat) (o_repeat : Nat) (o_now : Nat) (o_readPlayer : Nat) (o_readBar : Nat) (o_readPlayers : Int32) (o_readBars : Int32) (o_text : Nat) (o_length : Int32) (o_at : Int32) (o_faultAt : Int32) (o_acts : Int32) (o_next : Int32) (o_row : Nat) (o_heard : Int32) (o_heardOf : Nat) (o_heardBars : Nat) (o_heardPlays : Nat) (o_hushWho : Int32) (o_hushSum : Int32) (o_seed : Int64) (o_isKept : Nat) (o_kept : Nat) (np : Nat) (enp : o_players = nI np) (hnp : np ≤ 6) (nb : Nat) (enb : o_bars = nI nb) (hnb : nb ≤ 8) (u : Int64 × Int64) (hu : u = f_X5_seed x0 o_seed) : Met l yX5_seed wsX5_seed { frames := 0, cells := 0, slots := 0, locals := 0 } (hgPc [.ref o_h, .long x0] (dC, dI) cI cZ cM [(o_h, .inr (5, [.int o_players, .int o_bars, .ref o_price, .ref o_breath, .ref o_kind, .ref o_looks, .ref o_noise, .ref o_repeat, .ref o_now, .ref o_readPlayer, .ref o_readBar, .int o_readPlayers, .int o_readBars, .ref o_text, .int o_length, .int o_at, .int o_faultAt, .int o_acts, .int o_next, .ref o_row, .int o_heard, .ref o_heardOf, .ref o_heardBars, .ref o_heardPlays, .int o_hushWho, .int o_hushSum, .long o_seed, .ref o_isKept, .ref o_kept]))] sz) (hgQl (dC, dI) u.1 [(o_h, .inr (5, [.int o_players, .int o_bars, .ref o_price, .ref o_breath, .ref o_kind, .ref o_looks, .ref o_noise, .ref o_repeat, .ref o_now, .ref o_readPlayer, .ref o_readBar, .int o_readPlayers, .int o_readBars, .ref o_text, .int o_length, .int o_at, .int o_faultAt, .int o_acts, .int o_next, .ref o_row, .int o_heard, .ref o_heardOf, .ref o_heardBars, .ref o_heardPlays, .int o_hushWho, .int o_hushSum, .long u.2, .ref o_isKept, .ref o_kept]))] (va_A [(o_h, .inr (5, [.int o_players, .int o_bars, .ref o_price, .ref o_breath, .ref o_kind, .ref o_looks, .ref o_noise, .ref o_repeat, .ref o_now, .ref o_readPlayer, .ref o_readBar, .int o_readPlayers, .int o_readBars, .ref o_text, .int o_length, .int o_at, .int o_faultAt, .int o_acts, .int o_next, .ref o_row, .int o_heard, .ref o_heardOf, .ref o_heardBars, .ref o_heardPlays, .int o_hushWho, .int o_hushSum, .long o_seed, .ref o_isKept, .ref o_kept]))] sz)) 0 0 (va_A [(o_h, .inr (5, [.int o_players, .int o_bars, .ref o_price, .ref o_breath, .ref o_kind, .ref o_looks, .ref o_noise, .ref o_repeat, .ref o_now, .ref o_readPlayer, .ref o_readBar, .int o_readPlayers, .int o_readBars, .ref o_text, .int o_length, .int o_at, .int o_faultAt, .int o_acts, .int o_next, .ref o_row, .int o_heard, .ref o_heardOf, .ref o_heardBars, .ref o_heardPlays, .int o_hushWho, .int o_hushSum, .long o_seed, .ref o_isKept, .ref o_kept]))] sz) := by
  refine hg_ofW (cc := cX5_seed) (maxL := 5) (ret := (some .long)) (own := RX5) (fun A => hgQl (dC, dI) u.1 [(o_h, .inr (5, [.int o_players, .int o_bars, .ref o_price, .ref o_breath, .ref o_kind, .ref o_looks, .ref o_noise, .ref o_repeat, .ref o_now, .ref o_readPlayer, .ref o_readBar, .int o_readPlayers, .int o_readBars, .ref o_text, .int o_length, .int o_at, .int o_faultAt, .int o_acts, .int o_next, .ref o_row, .int o_heard, .ref o_heardOf, .ref o_heardBars, .ref o_heardPlays, .int o_hushWho, .int o_hushSum, .long u.2, .ref o_isKept, .ref o_kept]))] A) rfl (by decide) rfl (Nat.le_of_ble_eq_true rfl) ?_
  intro p e s m below meth c ls A hsz hx hb hr hml hown hts hlk hnm hK hN hA hP hD hS hl
  subst hsz
  have w1 := hts (.fieldLink RX5 231 "HatGoesRoundModel" "seed" "J") (List.mem_of_getElem? (i := 1) rfl)
  have hinX5 : ∀ w ∈ u_ws RX5 TX5 29, w ∈ wsX5_seed := fun _ h => List.mem_cons_of_mem _ (List.mem_append_right _ h)
  have hl : lv_has ls 5 [(0, .ref o_h), (1, .long x0)] := hl
  unfold f_X5_seed at hu
  refine lv_aload_n hx hb dX5_seed_0 rfl (lv_at hl 0 rfl) ?_
  refine va_get (D := (dC, dI)) (ci := 5) (v := .long o_seed) (C := RX5) (T := TX5) (N := 29) hx hb hts hinX5 hown hK hP 0 rfl rfl 26 (by decide) w1 (fun _ h9 => h9) rfl dX5_seed_1 ?_
  refine lv_lstore_n (lv' := [(3, .long o_seed), (0, .ref o_h), (1, .long x0)]) hx hb dX5_seed_4 rfl hl (by decide) rfl (fun ls hl => ?_)
  refine lv_aload_n hx hb dX5_seed_5 rfl (lv_at hl 1 rfl) ?_
  refine lv_lload_n hx hb dX5_seed_6 rfl (lv_at hl 2 rfl) ?_
  refine va_put (D := (dC, dI)) (ci := 5) (v := .long x0) (ty := .long) (C := RX5) (T := TX5) (N := 29) hx hb hts hinX5 tyX5 tyX5_ok nmX5 hown hK hP hD hS 0 rfl rfl 26 (by decide) w1 (fun _ h9 => h9) rfl (by decide +kernel) rfl rfl (Nat.le_of_ble_eq_true rfl) dX5_seed_7 (fun H locs hP hD hS => ?_)
  have hP : va_P (dC, dI) vwCl [(o_h, .inr (5, [.int o_players, .int o_bars, .ref o_price, .ref o_breath, .ref o_kind, .ref o_looks, .ref o_noise, .ref o_repeat, .ref o_now, .ref o_readPlayer, .ref o_readBar, .int o_readPlayers, .int o_readBars, .ref o_text, .int o_length, .int o_at, .int o_faultAt, .int o_acts, .int o_next, .ref o_row, .int o_heard, .ref o_heardOf, .ref o_heardBars, .ref o_heardPlays, .int o_hushWho, .int o_hushSum, .long x0, .ref o_isKept, .ref o_kept]))] H := hP
  have hD : va_D A [(o_h, .inr (5, [.int o_players, .int o_bars, .ref o_price, .ref o_breath, .ref o_kind, .ref o_looks, .ref o_noise, .ref o_repeat, .ref o_now, .ref o_readPlayer, .ref o_readBar, .int o_readPlayers, .int o_readBars, .ref o_text, .int o_length, .int o_at, .int o_faultAt, .int o_acts, .int o_next, .ref o_row, .int o_heard, .ref o_heardOf, .ref o_heardBars, .ref o_heardPlays, .int o_hushWho, .int o_hushSum, .long x0, .ref o_isKept, .ref o_kept]))] := hD
  refine lv_lload_n hx hb dX5_seed_10 rfl (lv_at hl 0 rfl) ?_
  subst hu
  exact hg_rl hx hb hr hlk rfl hP hD hS dX5_seed_11

set_option maxHeartbeats 4000000 in
set_option maxRecDepth 100000 in
theorem c_X5_nights (l : Launch) (dC : Nat → ClassId) (dI : Nat → Nat → Nat) (cI cZ cM : ClassId) (sz : Nat) (o_h : Nat) (x0 : Int32) (o_players : Int32) (o_bars : Int32) (o_price : Nat) (o_breath : Nat) (o_kind : Nat) (o_looks : Nat) (o_noise : Nat) (o_repeat : Nat) (o_now : Nat) (o_readPlayer : Nat) (o_readBar : Nat) (o_readPlayers : Int32) (o_readBars : Int32) (o_text : Nat) (o_length : Int32) (o_at : Int32) (o_faultAt : Int32) (o_acts : Int32) (o_next : Int32) (o_row : Nat) (o_heard : Int32) (o_heardOf : Nat) (o_heardBars : Nat) (o_heardPlays : Nat) (o_hushWho : Int32) (o_hushSum : Int32) (o_seed : Int64) (o_isKept : Nat) (o_kept : Nat) (o_now_v : Nat → Int32) (o_noise_v : Nat → Int32) (o_kind_v : Nat → Int32) (o_looks_v : Nat → Int32) (o_repeat_v : Nat → Int32) (o_price_v : Nat → Int32) (o_breath_v : Nat → Int32) (np : Nat) (enp : o_players = nI np) (hnp : np ≤ 6) (nb : Nat) (enb : o_bars = nI nb) (hnb : nb ≤ 8) (hB : mB o_now_v) (u : Int32 × Int64 × (Nat → Int32)) (hu : u = f_X5_nights x0 o_players o_bars o_seed o_now_v o_noise_v o_kind_v o_looks_v o_repeat_v o_price_v o_breath_v) : Met l yX5_nights wsX5_nights { frames := 6, cells := 0, slots := 0, locals := 144 } (hgPc [.ref o_h, .int x0] (dC, dI) cI cZ cM [(o_h, .inr (5, [.int o_players, .int o_bars, .ref o_price, .ref o_breath, .ref o_kind, .ref o_looks, .ref o_noise, .ref o_repeat, .ref o_now, .ref o_readPlayer, .ref o_readBar, .int o_readPlayers, .int o_readBars, .ref o_text, .int o_length, .int o_at, .int o_faultAt, .int o_acts, .int o_next, .ref o_row, .int o_heard, .ref o_heardOf, .ref o_heardBars, .ref o_heardPlays, .int o_hushWho, .int o_hushSum, .long o_seed, .ref o_isKept, .ref o_kept])), (o_now, .inl (cI, 32, .inl o_now_v)), (o_noise, .inl (cI, 8, .inl o_noise_v)), (o_kind, .inl (cI, 6, .inl o_kind_v)), (o_looks, .inl (cI, 6, .inl o_looks_v)), (o_repeat, .inl (cI, 8, .inl o_repeat_v)), (o_price, .inl (cI, 6, .inl o_price_v)), (o_breath, .inl (cI, 6, .inl o_breath_v))] sz) (hgQi (dC, dI) u.1 [(o_h, .inr (5, [.int o_players, .int o_bars, .ref o_price, .ref o_breath, .ref o_kind, .ref o_looks, .ref o_noise, .ref o_repeat, .ref o_now, .ref o_readPlayer, .ref o_readBar, .int o_readPlayers, .int o_readBars, .ref o_text, .int o_length, .int o_at, .int o_faultAt, .int o_acts, .int o_next, .ref o_row, .int o_heard, .ref o_heardOf, .ref o_heardBars, .ref o_heardPlays, .int o_hushWho, .int o_hushSum, .long u.2.1, .ref o_isKept, .ref o_kept])), (o_now, .inl (cI, 32, .inl u.2.2)), (o_noise, .inl (cI, 8, .inl o_noise_v)), (o_kind, .inl (cI, 6, .inl o_kind_v)), (o_looks, .inl (cI, 6, .inl o_looks_v)), (o_repeat, .inl (cI, 8, .inl o_repeat_v)), (o_price, .inl (cI, 6, .inl o_price_v)), (o_breath, .inl (cI, 6, .inl o_breath_v))] (va_A [(o_h, .inr (5, [.int o_players, .int o_bars, .ref o_price, .ref o_breath, .ref o_kind, .ref o_looks, .ref o_noise, .ref o_repeat, .ref o_now, .ref o_readPlayer, .ref o_readBar, .int o_readPlayers, .int o_readBars, .ref o_text, .int o_length, .int o_at, .int o_faultAt, .int o_acts, .int o_next, .ref o_row, .int o_heard, .ref o_heardOf, .ref o_heardBars, .ref o_heardPlays, .int o_hushWho, .int o_hushSum, .long o_seed, .ref o_isKept, .ref o_kept])), (o_now, .inl (cI, 32, .inl o_now_v)), (o_noise, .inl (cI, 8, .inl o_noise_v)), (o_kind, .inl (cI, 6, .inl o_kind_v)), (o_looks, .inl (cI, 6, .inl o_looks_v)), (o_repeat, .inl (cI, 8, .inl o_repeat_v)), (o_price, .inl (cI, 6, .inl o_price_v)), (o_breath, .inl (cI, 6, .inl o_breath_v))] sz)) 0 0 (va_A [(o_h, .inr (5, [.int o_players, .int o_bars, .ref o_price, .ref o_breath, .ref o_kind, .ref o_looks, .ref o_noise, .ref o_repeat, .ref o_now, .ref o_readPlayer, .ref o_readBar, .int o_readPlayers, .int o_readBars, .ref o_text, .int o_length, .int o_at, .int o_faultAt, .int o_acts, .int o_next, .ref o_row, .int o_heard, .ref o_heardOf, .ref o_heardBars, .ref o_heardPlays, .int o_hushWho, .int o_hushSum, .long o_seed, .ref o_isKept, .ref o_kept])), (o_now, .inl (cI, 32, .inl o_now_v)), (o_noise, .inl (cI, 8, .inl o_noise_v)), (o_kind, .inl (cI, 6, .inl o_kind_v)), (o_looks, .inl (cI, 6, .inl o_looks_v)), (o_repeat, .inl (cI, 8, .inl o_repeat_v)), (o_price, .inl (cI, 6, .inl o_price_v)), (o_breath, .inl (cI, 6, .inl o_breath_v))] sz) := by
  refine hg_ofW (cc := cX5_nights) (maxL := 5) (ret := (some .int)) (own := RX5) (fun A => hgQi (dC, dI) u.1 [(o_h, .inr (5, [.int o_players, .int o_bars, .ref o_price, .ref o_breath, .ref o_kind, .ref o_looks, .ref o_noise, .ref o_repeat, .ref o_now, .ref o_readPlayer, .ref o_readBar, .int o_readPlayers, .int o_readBars, .ref o_text, .int o_length, .int o_at, .int o_faultAt, .int o_acts, .int o_next, .ref o_row, .int o_heard, .ref o_heardOf, .ref o_heardBars, .ref o_heardPlays, .int o_hushWho, .int o_hushSum, .long u.2.1, .ref o_isKept, .ref o_kept])), (o_now, .inl (cI, 32, .inl u.2.2)), (o_noise, .inl (cI, 8, .inl o_noise_v)), (o_kind, .inl (cI, 6, .inl o_kind_v)), (o_looks, .inl (cI, 6, .inl o_looks_v)), (o_repeat, .inl (cI, 8, .inl o_repeat_v)), (o_price, .inl (cI, 6, .inl o_price_v)), (o_breath, .inl (cI, 6, .inl o_breath_v))] A) rfl (by decide) rfl (Nat.le_of_ble_eq_true rfl) ?_
  intro p e s m below meth c ls A hsz hx hb hr hml hown hts hlk hnm hK hN hA hP hD hS hl
  subst hsz
  have w1 := hts (.constantLong RX5 162 (30)) (List.mem_of_getElem? (i := 1) rfl)
  have w2 := hts (.fieldLink RX5 231 "HatGoesRoundModel" "seed" "J") (List.mem_of_getElem? (i := 2) rfl)
  have hinX5 : ∀ w ∈ u_ws RX5 TX5 29, w ∈ wsX5_nights := fun _ h => List.mem_cons_of_mem _ (List.mem_append_right _ h)
  have w3 := hts (.constantLong RX5 235 (6364136223846793005)) (List.mem_of_getElem? (i := 3) rfl)
  have w4 := hts (.constantLong RX5 237 (1442695040888963407)) (List.mem_of_getElem? (i := 4) rfl)
  have w5 := hts (.constantLong RX5 239 (26)) (List.mem_of_getElem? (i := 5) rfl)
  have hl : lv_has ls 5 [(0, .ref o_h), (1, .int x0)] := hl
  unfold f_X5_nights at hu
  refine lv_iload_n hx hb dX5_nights_0 rfl (lv_at hl 1 rfl) ?_
  refine lv_i2l (v := (Int32.toInt64 x0)) hx hb dX5_nights_1 rfl ?_
  refine lv_lconst (v := 1) hx hb dX5_nights_2 (by decide) ?_
  refine lv_ldc2 (v := 30) hx hb hown w1 dX5_nights_3 ?_
  obtain ⟨r1, er1, hu⟩ := lxb_o hu
  refine hg_ci (va_runS (As := [.long (Int32.toInt64 x0), .long 1, .long 30]) (rest := []) ⟨hx, hb, hml, hown, hts⟩ (c_X5_in l dC dI cI cZ cM _ (Int32.toInt64 x0) 1 30 r1 er1) (va_cwS 3 hts gX5_nights_X5_in rfl rfl rfl (by decide +kernel) ⟨Nat.le_of_ble_eq_true rfl, Nat.le_of_ble_eq_true rfl⟩) (hgPreS hP hD hK hN [] rfl rfl) rfl rfl hl.1 rfl (lv_room (Nat.le_of_ble_eq_true rfl)) dX5_nights_6 ⟨Nat.zero_le _, Nat.zero_le _⟩) hP hD hS hA (wr := [(o_h, .inr (5, [.int o_players, .int o_bars, .ref o_price, .ref o_breath, .ref o_kind, .ref o_looks, .ref o_noise, .ref o_repeat, .ref o_now, .ref o_readPlayer, .ref o_readBar, .int o_readPlayers, .int o_readBars, .ref o_text, .int o_length, .int o_at, .int o_faultAt, .int o_acts, .int o_next, .ref o_row, .int o_heard, .ref o_heardOf, .ref o_heardBars, .ref o_heardPlays, .int o_hushWho, .int o_hushSum, .long o_seed, .ref o_isKept, .ref o_kept])), (o_now, .inl (cI, 32, .inl o_now_v)), (o_noise, .inl (cI, 8, .inl o_noise_v)), (o_kind, .inl (cI, 6, .inl o_kind_v)), (o_looks, .inl (cI, 6, .inl o_looks_v)), (o_repeat, .inl (cI, 8, .inl o_repeat_v)), (o_price, .inl (cI, 6, .inl o_price_v)), (o_breath, .inl (cI, 6, .inl o_breath_v))]) (wf := [(o_h, .inr (5, [.int o_players, .int o_bars, .ref o_price, .ref o_breath, .ref o_kind, .ref o_looks, .ref o_noise, .ref o_repeat, .ref o_now, .ref o_readPlayer, .ref o_readBar, .int o_readPlayers, .int o_readBars, .ref o_text, .int o_length, .int o_at, .int o_faultAt, .int o_acts, .int o_next, .ref o_row, .int o_heard, .ref o_heardOf, .ref o_heardBars, .ref o_heardPlays, .int o_hushWho, .int o_hushSum, .long o_seed, .ref o_isKept, .ref o_kept])), (o_now, .inl (cI, 32, .inl o_now_v)), (o_noise, .inl (cI, 8, .inl o_noise_v)), (o_kind, .inl (cI, 6, .inl o_kind_v)), (o_looks, .inl (cI, 6, .inl o_looks_v)), (o_repeat, .inl (cI, 8, .inl o_repeat_v)), (o_price, .inl (cI, 6, .inl o_price_v)), (o_breath, .inl (cI, 6, .inl o_breath_v))]) [] [0, 1, 2, 3, 4, 5, 6, 7] [0, 1, 2, 3, 4, 5, 6, 7] rfl rfl rfl (by decide) rfl rfl (fun H locs hP hD hS => ?_)
  refine lv_if_ne (tgt := 15) hx hb dX5_nights_9 (by decide) (fun c_9 => ?_) (fun c_9 => ?_)
  · have hu := hu.trans (if_neg c_9)
    refine lv_aload_n hx hb dX5_nights_15 rfl (lv_at hl 0 rfl) ?_
    obtain ⟨r2, er2, hu⟩ := lxb_o hu
    refine hg_cvE (va_runV (As := []) (rest := []) ⟨hx, hb, hml, hown, hts⟩ (c_X5_layTrial l dC dI cI cZ cM _ o_h o_players o_bars o_price o_breath o_kind o_looks o_noise o_repeat o_now o_readPlayer o_readBar o_readPlayers o_readBars o_text o_length o_at o_faultAt o_acts o_next o_row o_heard o_heardOf o_heardBars o_heardPlays o_hushWho o_hushSum o_seed o_isKept o_kept o_now_v np enp (by omega) nb enb (by omega) hB r2 er2) (cwV 0 hts gX5_nights_X5_layTrial rfl rfl rfl (by decide +kernel) ⟨Nat.le_of_ble_eq_true rfl, Nat.le_of_ble_eq_true rfl⟩) (hgPreV (C := RX5) (T := TX5) (N := 29) (ci := 5) (q0 := 0) hP hD hK hN [0, 1] rfl rfl rfl rfl) rfl rfl hl.1 rfl (lv_room (Nat.le_of_ble_eq_true rfl)) dX5_nights_16 ⟨Nat.zero_le _, Nat.zero_le _⟩) hP hD hS hA (wr := [(o_noise, .inl (cI, 8, .inl o_noise_v)), (o_kind, .inl (cI, 6, .inl o_kind_v)), (o_looks, .inl (cI, 6, .inl o_looks_v)), (o_repeat, .inl (cI, 8, .inl o_repeat_v)), (o_price, .inl (cI, 6, .inl o_price_v)), (o_breath, .inl (cI, 6, .inl o_breath_v))]) (wf := [(o_h, .inr (5, [.int o_players, .int o_bars, .ref o_price, .ref o_breath, .ref o_kind, .ref o_looks, .ref o_noise, .ref o_repeat, .ref o_now, .ref o_readPlayer, .ref o_readBar, .int o_readPlayers, .int o_readBars, .ref o_text, .int o_length, .int o_at, .int o_faultAt, .int o_acts, .int o_next, .ref o_row, .int o_heard, .ref o_heardOf, .ref o_heardBars, .ref o_heardPlays, .int o_hushWho, .int o_hushSum, .long o_seed, .ref o_isKept, .ref o_kept])), (o_now, .inl (cI, 32, .inl r2)), (o_noise, .inl (cI, 8, .inl o_noise_v)), (o_kind, .inl (cI, 6, .inl o_kind_v)), (o_looks, .inl (cI, 6, .inl o_looks_v)), (o_repeat, .inl (cI, 8, .inl o_repeat_v)), (o_price, .inl (cI, 6, .inl o_price_v)), (o_breath, .inl (cI, 6, .inl o_breath_v))]) [0, 1] [2, 3, 4, 5, 6, 7] [6, 7, 0, 1, 2, 3, 4, 5] rfl rfl rfl (by decide) rfl rfl (fun hB3 H locs hP hD hS => ?_)
    refine lv_iconst (v := 0) hx hb dX5_nights_19 (by decide) ?_
    refine lv_istore_n (lv' := [(2, .int 0), (0, .ref o_h), (1, .int x0)]) hx hb dX5_nights_20 rfl hl (by decide) rfl (fun ls hl => ?_)
    refine lv_iconst (v := 0) hx hb dX5_nights_21 (by decide) ?_
    refine lv_istore_n (lv' := [(3, .int 0), (2, .int 0), (0, .ref o_h), (1, .int x0)]) hx hb dX5_nights_22 rfl hl (by decide) rfl (fun ls hl => ?_)
    obtain ⟨r19, er19, hu⟩ := lxb_o hu
    refine hg_loopFJ (T := Int32 × Int64 × (Nat → Int32)) (N := (itn 0 x0)) (fun v23 => (mB v23.2.2)) (fun v23 => [(o_h, .inr (5, [.int o_players, .int o_bars, .ref o_price, .ref o_breath, .ref o_kind, .ref o_looks, .ref o_noise, .ref o_repeat, .ref o_now, .ref o_readPlayer, .ref o_readBar, .int o_readPlayers, .int o_readBars, .ref o_text, .int o_length, .int o_at, .int o_faultAt, .int o_acts, .int o_next, .ref o_row, .int o_heard, .ref o_heardOf, .ref o_heardBars, .ref o_heardPlays, .int o_hushWho, .int o_hushSum, .long v23.2.1, .ref o_isKept, .ref o_kept])), (o_now, .inl (cI, 32, .inl v23.2.2)), (o_noise, .inl (cI, 8, .inl o_noise_v)), (o_kind, .inl (cI, 6, .inl o_kind_v)), (o_looks, .inl (cI, 6, .inl o_looks_v)), (o_repeat, .inl (cI, 8, .inl o_repeat_v)), (o_price, .inl (cI, 6, .inl o_price_v)), (o_breath, .inl (cI, 6, .inl o_breath_v))]) (fun k23 v23 => [(0, .ref o_h), (1, .int x0), (2, .int v23.1), (3, .int (nI k23))]) (fun k23 => l_X5_nights_23 o_players o_bars o_noise_v o_kind_v o_looks_v o_repeat_v o_price_v o_breath_v (0, o_seed, r2) k23) hB3 ?_ ?_ hP hD hS (lv_sub hl [2, 3, 1, 0] rfl)
    · intro v23 hJ23 hv H locs ls hP hD hS hl
      obtain rfl : r19 = v23 := er19.trans hv.symm
      have hP : va_P (dC, dI) vwCl [(o_h, .inr (5, [.int o_players, .int o_bars, .ref o_price, .ref o_breath, .ref o_kind, .ref o_looks, .ref o_noise, .ref o_repeat, .ref o_now, .ref o_readPlayer, .ref o_readBar, .int o_readPlayers, .int o_readBars, .ref o_text, .int o_length, .int o_at, .int o_faultAt, .int o_acts, .int o_next, .ref o_row, .int o_heard, .ref o_heardOf, .ref o_heardBars, .ref o_heardPlays, .int o_hushWho, .int o_hushSum, .long r19.2.1, .ref o_isKept, .ref o_kept])), (o_now, .inl (cI, 32, .inl r19.2.2)), (o_noise, .inl (cI, 8, .inl o_noise_v)), (o_kind, .inl (cI, 6, .inl o_kind_v)), (o_looks, .inl (cI, 6, .inl o_looks_v)), (o_repeat, .inl (cI, 8, .inl o_repeat_v)), (o_price, .inl (cI, 6, .inl o_price_v)), (o_breath, .inl (cI, 6, .inl o_breath_v))] H := hP
      have hD : va_D A [(o_h, .inr (5, [.int o_players, .int o_bars, .ref o_price, .ref o_breath, .ref o_kind, .ref o_looks, .ref o_noise, .ref o_repeat, .ref o_now, .ref o_readPlayer, .ref o_readBar, .int o_readPlayers, .int o_readBars, .ref o_text, .int o_length, .int o_at, .int o_faultAt, .int o_acts, .int o_next, .ref o_row, .int o_heard, .ref o_heardOf, .ref o_heardBars, .ref o_heardPlays, .int o_hushWho, .int o_hushSum, .long r19.2.1, .ref o_isKept, .ref o_kept])), (o_now, .inl (cI, 32, .inl r19.2.2)), (o_noise, .inl (cI, 8, .inl o_noise_v)), (o_kind, .inl (cI, 6, .inl o_kind_v)), (o_looks, .inl (cI, 6, .inl o_looks_v)), (o_repeat, .inl (cI, 8, .inl o_repeat_v)), (o_price, .inl (cI, 6, .inl o_price_v)), (o_breath, .inl (cI, 6, .inl o_breath_v))] := hD
      have hl : lv_has ls 5 [(0, .ref o_h), (1, .int x0), (2, .int r19.1), (3, .int (nI (itn 0 x0)))] := hl
      refine lv_iload_n hx hb dX5_nights_23 rfl (lv_at hl 3 rfl) ?_
      refine lv_iload_n hx hb dX5_nights_24 rfl (lv_at hl 1 rfl) ?_
      refine lv_icmp_ge (tgt := 146) hx hb dX5_nights_25 (by decide) (fun c_25 => ?_) (fun c_25 => absurd hg_lo0 c_25)
      refine lv_iload_n hx hb dX5_nights_146 rfl (lv_at hl 2 rfl) ?_
      subst hu
      exact hg_ri hx hb hr hlk rfl hP hD hS dX5_nights_147
    · intro k23 hk v23 hJ23 hv w hw ih H locs ls hP hD hS hl
      have hw : w = b_X5_nights_23 o_players o_bars o_noise_v o_kind_v o_looks_v o_repeat_v o_price_v o_breath_v k23 v23 := by rw [hw, hv]; rfl
      unfold b_X5_nights_23 at hw
      have hP : va_P (dC, dI) vwCl [(o_h, .inr (5, [.int o_players, .int o_bars, .ref o_price, .ref o_breath, .ref o_kind, .ref o_looks, .ref o_noise, .ref o_repeat, .ref o_now, .ref o_readPlayer, .ref o_readBar, .int o_readPlayers, .int o_readBars, .ref o_text, .int o_length, .int o_at, .int o_faultAt, .int o_acts, .int o_next, .ref o_row, .int o_heard, .ref o_heardOf, .ref o_heardBars, .ref o_heardPlays, .int o_hushWho, .int o_hushSum, .long v23.2.1, .ref o_isKept, .ref o_kept])), (o_now, .inl (cI, 32, .inl v23.2.2)), (o_noise, .inl (cI, 8, .inl o_noise_v)), (o_kind, .inl (cI, 6, .inl o_kind_v)), (o_looks, .inl (cI, 6, .inl o_looks_v)), (o_repeat, .inl (cI, 8, .inl o_repeat_v)), (o_price, .inl (cI, 6, .inl o_price_v)), (o_breath, .inl (cI, 6, .inl o_breath_v))] H := hP
      have hD : va_D A [(o_h, .inr (5, [.int o_players, .int o_bars, .ref o_price, .ref o_breath, .ref o_kind, .ref o_looks, .ref o_noise, .ref o_repeat, .ref o_now, .ref o_readPlayer, .ref o_readBar, .int o_readPlayers, .int o_readBars, .ref o_text, .int o_length, .int o_at, .int o_faultAt, .int o_acts, .int o_next, .ref o_row, .int o_heard, .ref o_heardOf, .ref o_heardBars, .ref o_heardPlays, .int o_hushWho, .int o_hushSum, .long v23.2.1, .ref o_isKept, .ref o_kept])), (o_now, .inl (cI, 32, .inl v23.2.2)), (o_noise, .inl (cI, 8, .inl o_noise_v)), (o_kind, .inl (cI, 6, .inl o_kind_v)), (o_looks, .inl (cI, 6, .inl o_looks_v)), (o_repeat, .inl (cI, 8, .inl o_repeat_v)), (o_price, .inl (cI, 6, .inl o_price_v)), (o_breath, .inl (cI, 6, .inl o_breath_v))] := hD
      have hl : lv_has ls 5 [(0, .ref o_h), (1, .int x0), (2, .int v23.1), (3, .int (nI k23))] := hl
      refine lv_iload_n hx hb dX5_nights_23 rfl (lv_at hl 3 rfl) ?_
      refine lv_iload_n hx hb dX5_nights_24 rfl (lv_at hl 1 rfl) ?_
      refine lv_icmp_ge (tgt := 146) hx hb dX5_nights_25 (by decide) (fun c_25 => absurd c_25 (hg_lo1 hk)) (fun c_25 => ?_)
      refine lv_aload_n hx hb dX5_nights_28 rfl (lv_at hl 0 rfl) ?_
      refine lv_aload_n hx hb dX5_nights_29 rfl (lv_at hl 0 rfl) ?_
      refine va_get (D := (dC, dI)) (ci := 5) (v := .long v23.2.1) (C := RX5) (T := TX5) (N := 29) hx hb hts hinX5 hown hK hP 0 rfl rfl 26 (by decide) w2 (fun _ h9 => h9) rfl dX5_nights_30 ?_
      refine lv_ldc2 (v := 6364136223846793005) hx hb hown w3 dX5_nights_33 ?_
      refine lv_lmul hx hb dX5_nights_36 ?_
      refine lv_ldc2 (v := 1442695040888963407) hx hb hown w4 dX5_nights_37 ?_
      refine lv_ladd hx hb dX5_nights_40 ?_
      obtain ⟨y4, ey4, hw⟩ := lxb_o hw
      refine lv_topl (fun z ez => ?_)
      obtain rfl : y4 = z := ey4.trans ez.symm
      refine va_put (D := (dC, dI)) (ci := 5) (v := .long y4) (ty := .long) (C := RX5) (T := TX5) (N := 29) hx hb hts hinX5 tyX5 tyX5_ok nmX5 hown hK hP hD hS 0 rfl rfl 26 (by decide) w2 (fun _ h9 => h9) rfl (by decide +kernel) rfl rfl (Nat.le_of_ble_eq_true rfl) dX5_nights_41 (fun H locs hP hD hS => ?_)
      have hP : va_P (dC, dI) vwCl [(o_h, .inr (5, [.int o_players, .int o_bars, .ref o_price, .ref o_breath, .ref o_kind, .ref o_looks, .ref o_noise, .ref o_repeat, .ref o_now, .ref o_readPlayer, .ref o_readBar, .int o_readPlayers, .int o_readBars, .ref o_text, .int o_length, .int o_at, .int o_faultAt, .int o_acts, .int o_next, .ref o_row, .int o_heard, .ref o_heardOf, .ref o_heardBars, .ref o_heardPlays, .int o_hushWho, .int o_hushSum, .long y4, .ref o_isKept, .ref o_kept])), (o_now, .inl (cI, 32, .inl v23.2.2)), (o_noise, .inl (cI, 8, .inl o_noise_v)), (o_kind, .inl (cI, 6, .inl o_kind_v)), (o_looks, .inl (cI, 6, .inl o_looks_v)), (o_repeat, .inl (cI, 8, .inl o_repeat_v)), (o_price, .inl (cI, 6, .inl o_price_v)), (o_breath, .inl (cI, 6, .inl o_breath_v))] H := hP
      have hD : va_D A [(o_h, .inr (5, [.int o_players, .int o_bars, .ref o_price, .ref o_breath, .ref o_kind, .ref o_looks, .ref o_noise, .ref o_repeat, .ref o_now, .ref o_readPlayer, .ref o_readBar, .int o_readPlayers, .int o_readBars, .ref o_text, .int o_length, .int o_at, .int o_faultAt, .int o_acts, .int o_next, .ref o_row, .int o_heard, .ref o_heardOf, .ref o_heardBars, .ref o_heardPlays, .int o_hushWho, .int o_hushSum, .long y4, .ref o_isKept, .ref o_kept])), (o_now, .inl (cI, 32, .inl v23.2.2)), (o_noise, .inl (cI, 8, .inl o_noise_v)), (o_kind, .inl (cI, 6, .inl o_kind_v)), (o_looks, .inl (cI, 6, .inl o_looks_v)), (o_repeat, .inl (cI, 8, .inl o_repeat_v)), (o_price, .inl (cI, 6, .inl o_price_v)), (o_breath, .inl (cI, 6, .inl o_breath_v))] := hD
      refine lv_aload_n hx hb dX5_nights_44 rfl (lv_at hl 0 rfl) ?_
      refine va_get (D := (dC, dI)) (ci := 5) (v := .long y4) (C := RX5) (T := TX5) (N := 29) hx hb hts hinX5 hown hK hP 0 rfl rfl 26 (by decide) w2 (fun _ h9 => h9) rfl dX5_nights_45 ?_
      refine lv_bipush (v := 33) hx hb dX5_nights_48 (by decide) ?_
      refine lv_lushr (v := ((Int64.toUInt64 y4 >>> ((Int32.toInt64 33).toUInt64 &&& Int64.toUInt64 63)).toInt64)) hx hb dX5_nights_50 rfl ?_
      refine lv_ldc2 (v := 26) hx hb hown w5 dX5_nights_51 ?_
      refine lv_lrem hx hb dX5_nights_54 (by decide) ?_
      refine lv_l2i (v := (Int64.toInt32 (((Int64.toUInt64 y4 >>> ((Int32.toInt64 33).toUInt64 &&& Int64.toUInt64 63)).toInt64) - ((Int64.toUInt64 y4 >>> ((Int32.toInt64 33).toUInt64 &&& Int64.toUInt64 63)).toInt64) / 26 * 26))) hx hb dX5_nights_55 rfl ?_
      obtain ⟨y5, ey5, hw⟩ := lxb_o hw
      refine lv_topi (fun z ez => ?_)
      obtain rfl : y5 = z := ey5.trans ez.symm
      refine lv_istore (lv' := [(4, .int y5), (0, .ref o_h), (1, .int x0), (2, .int v23.1), (3, .int (nI k23))]) hx hb dX5_nights_56 hl (by decide) rfl (fun ls hl => ?_)
      refine lv_iload hx hb dX5_nights_58 (lv_at hl 0 rfl) ?_
      refine lv_bipush (v := 15) hx hb dX5_nights_60 (by decide) ?_
      refine lv_icmp_le (tgt := 74) hx hb dX5_nights_62 (by decide) (fun c_62 => ?_) (fun c_62 => ?_)
      · have hw := hw.trans (if_pos c_62)
        refine lv_iload hx hb dX5_nights_74 (lv_at hl 0 rfl) ?_
        refine lv_bipush (v := 15) hx hb dX5_nights_76 (by decide) ?_
        refine lv_icmp_ne (tgt := 89) hx hb dX5_nights_78 (by decide) (fun c_78 => ?_) (fun c_78 => ?_)
        · have hw := hw.trans (if_neg c_78)
          refine lv_iload hx hb dX5_nights_89 (lv_at hl 0 rfl) ?_
          refine lv_bipush (v := 11) hx hb dX5_nights_91 (by decide) ?_
          refine lv_icmp_le (tgt := 109) hx hb dX5_nights_93 (by decide) (fun c_93 => ?_) (fun c_93 => ?_)
          · have hw := hw.trans (if_pos c_93)
            refine lv_aload_n hx hb dX5_nights_109 rfl (lv_at hl 1 rfl) ?_
            refine lv_iload hx hb dX5_nights_110 (lv_at hl 0 rfl) ?_
            refine lv_bipush (v := 6) hx hb dX5_nights_112 (by decide) ?_
            obtain ⟨z6, ez6, hw⟩ := lxb_o hw
            refine hg_cut (D := (dC, dI)) (A0 := A) (H0 := s.heap) (ws := [(o_h, .inr (5, [.int o_players, .int o_bars, .ref o_price, .ref o_breath, .ref o_kind, .ref o_looks, .ref o_noise, .ref o_repeat, .ref o_now, .ref o_readPlayer, .ref o_readBar, .int o_readPlayers, .int o_readBars, .ref o_text, .int o_length, .int o_at, .int o_faultAt, .int o_acts, .int o_next, .ref o_row, .int o_heard, .ref o_heardOf, .ref o_heardBars, .ref o_heardPlays, .int o_hushWho, .int o_hushSum, .long y4, .ref o_isKept, .ref o_kept])), (o_now, .inl (cI, 32, .inl v23.2.2)), (o_noise, .inl (cI, 8, .inl o_noise_v)), (o_kind, .inl (cI, 6, .inl o_kind_v)), (o_looks, .inl (cI, 6, .inl o_looks_v)), (o_repeat, .inl (cI, 8, .inl o_repeat_v)), (o_price, .inl (cI, 6, .inl o_price_v)), (o_breath, .inl (cI, 6, .inl o_breath_v))]) (g := F0 m 122 ls [.int z6, .ref o_h]) ?_ (fun hJ => ?_)
            · intro H locs hP hD hS
              refine lv_iconst (v := 0) hx hb dX5_nights_122 (by decide) ?_
              refine lv_iload hx hb dX5_nights_123 (lv_at hl 0 rfl) ?_
              refine lv_bipush (v := 6) hx hb dX5_nights_125 (by decide) ?_
              refine lv_irem hx hb dX5_nights_127 (by decide) ?_
              obtain ⟨r7, er7, hw⟩ := lxb_o hw
              refine hg_ciE (va_runV (As := [.int z6, .int 0, .int (y5 - y5 / 6 * 6)]) (rest := []) ⟨hx, hb, hml, hown, hts⟩ (c_X5_tryThing l dC dI cI cZ cM _ o_h z6 0 (y5 - y5 / 6 * 6) o_players o_bars o_price o_breath o_kind o_looks o_noise o_repeat o_now o_readPlayer o_readBar o_readPlayers o_readBars o_text o_length o_at o_faultAt o_acts o_next o_row o_heard o_heardOf o_heardBars o_heardPlays o_hushWho o_hushSum y4 o_isKept o_kept v23.2.2 o_noise_v o_kind_v o_looks_v o_repeat_v o_price_v o_breath_v np enp (by omega) nb enb (by omega) hJ23 r7 er7) (cwV 3 hts gX5_nights_X5_tryThing rfl rfl rfl (by decide +kernel) ⟨Nat.le_of_ble_eq_true rfl, Nat.le_of_ble_eq_true rfl⟩) (hgPreV (C := RX5) (T := TX5) (N := 29) (ci := 5) (q0 := 0) hP hD hK hN [0, 1, 2, 3, 4, 5, 6, 7] rfl rfl rfl rfl) rfl rfl hl.1 rfl (lv_room (Nat.le_of_ble_eq_true rfl)) dX5_nights_128 ⟨Nat.zero_le _, Nat.zero_le _⟩) hP hD hS hA (wr := []) (wf := [(o_h, .inr (5, [.int o_players, .int o_bars, .ref o_price, .ref o_breath, .ref o_kind, .ref o_looks, .ref o_noise, .ref o_repeat, .ref o_now, .ref o_readPlayer, .ref o_readBar, .int o_readPlayers, .int o_readBars, .ref o_text, .int o_length, .int o_at, .int o_faultAt, .int o_acts, .int o_next, .ref o_row, .int o_heard, .ref o_heardOf, .ref o_heardBars, .ref o_heardPlays, .int o_hushWho, .int o_hushSum, .long y4, .ref o_isKept, .ref o_kept])), (o_now, .inl (cI, 32, .inl r7.2)), (o_noise, .inl (cI, 8, .inl o_noise_v)), (o_kind, .inl (cI, 6, .inl o_kind_v)), (o_looks, .inl (cI, 6, .inl o_looks_v)), (o_repeat, .inl (cI, 8, .inl o_repeat_v)), (o_price, .inl (cI, 6, .inl o_price_v)), (o_breath, .inl (cI, 6, .inl o_breath_v))]) [0, 1, 2, 3, 4, 5, 6, 7] [] [0, 1, 2, 3, 4, 5, 6, 7] rfl rfl rfl (by decide) rfl rfl (fun hB8 H locs hP hD hS => ?_)
              refine lv_pop hx hb dX5_nights_131 rfl ?_
              refine lv_iload_n hx hb dX5_nights_132 rfl (lv_at hl 3 rfl) ?_
              refine lv_aload_n hx hb dX5_nights_133 rfl (lv_at hl 1 rfl) ?_
              refine lv_iconst (v := 1) hx hb dX5_nights_134 (by decide) ?_
              obtain ⟨r9, er9, hw⟩ := lxb_o hw
              refine hg_ci (va_runV (As := [.int 1]) (rest := [.int v23.1]) ⟨hx, hb, hml, hown, hts⟩ (c_X5_howMany l dC dI cI cZ cM _ o_h 1 o_players o_bars o_price o_breath o_kind o_looks o_noise o_repeat o_now o_readPlayer o_readBar o_readPlayers o_readBars o_text o_length o_at o_faultAt o_acts o_next o_row o_heard o_heardOf o_heardBars o_heardPlays o_hushWho o_hushSum y4 o_isKept o_kept r7.2 np enp (by omega) nb enb (by omega) 1 (show (1 : Int32) = nI 1 from rfl) (by omega) r9 er9) (cwV 1 hts gX5_nights_X5_howMany rfl rfl rfl (by decide +kernel) ⟨Nat.le_of_ble_eq_true rfl, Nat.le_of_ble_eq_true rfl⟩) (hgPreV (C := RX5) (T := TX5) (N := 29) (ci := 5) (q0 := 0) hP hD hK hN [0, 1] rfl rfl rfl rfl) rfl rfl hl.1 rfl (lv_room (Nat.le_of_ble_eq_true rfl)) dX5_nights_135 ⟨Nat.zero_le _, Nat.zero_le _⟩) hP hD hS hA (wr := [(o_noise, .inl (cI, 8, .inl o_noise_v)), (o_kind, .inl (cI, 6, .inl o_kind_v)), (o_looks, .inl (cI, 6, .inl o_looks_v)), (o_repeat, .inl (cI, 8, .inl o_repeat_v)), (o_price, .inl (cI, 6, .inl o_price_v)), (o_breath, .inl (cI, 6, .inl o_breath_v))]) (wf := [(o_h, .inr (5, [.int o_players, .int o_bars, .ref o_price, .ref o_breath, .ref o_kind, .ref o_looks, .ref o_noise, .ref o_repeat, .ref o_now, .ref o_readPlayer, .ref o_readBar, .int o_readPlayers, .int o_readBars, .ref o_text, .int o_length, .int o_at, .int o_faultAt, .int o_acts, .int o_next, .ref o_row, .int o_heard, .ref o_heardOf, .ref o_heardBars, .ref o_heardPlays, .int o_hushWho, .int o_hushSum, .long y4, .ref o_isKept, .ref o_kept])), (o_now, .inl (cI, 32, .inl r7.2)), (o_noise, .inl (cI, 8, .inl o_noise_v)), (o_kind, .inl (cI, 6, .inl o_kind_v)), (o_looks, .inl (cI, 6, .inl o_looks_v)), (o_repeat, .inl (cI, 8, .inl o_repeat_v)), (o_price, .inl (cI, 6, .inl o_price_v)), (o_breath, .inl (cI, 6, .inl o_breath_v))]) [0, 1] [2, 3, 4, 5, 6, 7] [6, 7, 0, 1, 2, 3, 4, 5] rfl rfl rfl (by decide) rfl rfl (fun H locs hP hD hS => ?_)
              refine lv_iadd hx hb dX5_nights_138 ?_
              refine lv_istore_n (lv' := [(2, .int (v23.1 + r9)), (4, .int y5), (0, .ref o_h), (1, .int x0), (3, .int (nI k23))]) hx hb dX5_nights_139 rfl hl (by decide) rfl (fun ls hl => ?_)
              refine lv_iinc (v := nI (k23 + 1)) (lv' := [(3, .int (nI (k23 + 1))), (2, .int (v23.1 + r9)), (4, .int y5), (0, .ref o_h), (1, .int x0)]) hx hb dX5_nights_140 hl (k := 4) rfl (nI_1 k23) (by decide) rfl (fun ls hl => ?_)
              refine lv_goto (tgt := 23) hx hb dX5_nights_143 (by decide) ?_
              subst hw
              exact ih hB8 _ _ _ hP hD hS (lv_sub hl [3, 4, 1, 0] rfl)
            · refine lv_icmp_ge (tgt := 121) hx hb dX5_nights_114 (by decide) (fun c_114 => ?_) (fun c_114 => ?_)
              · have ez6 := ez6.trans (if_pos c_114)
                refine lv_iconst (v := 3) hx hb dX5_nights_121 (by decide) ?_
                subst ez6
                exact hJ _ _ hP hD hS
              · have ez6 := ez6.trans (if_neg c_114)
                refine lv_iconst (v := 2) hx hb dX5_nights_117 (by decide) ?_
                refine lv_goto (tgt := 122) hx hb dX5_nights_118 (by decide) ?_
                subst ez6
                exact hJ _ _ hP hD hS
          · have hw := hw.trans (if_neg c_93)
            refine lv_aload_n hx hb dX5_nights_96 rfl (lv_at hl 1 rfl) ?_
            refine lv_iconst (v := 1) hx hb dX5_nights_97 (by decide) ?_
            refine lv_iload hx hb dX5_nights_98 (lv_at hl 0 rfl) ?_
            refine lv_bipush (v := 11) hx hb dX5_nights_100 (by decide) ?_
            refine lv_isub hx hb dX5_nights_102 ?_
            obtain ⟨r10, er10, hw⟩ := lxb_o hw
            refine hg_cvE (va_runV (As := [.int 1, .int (y5 - 11)]) (rest := []) ⟨hx, hb, hml, hown, hts⟩ (c_X5_giveOn l dC dI cI cZ cM _ o_h 1 (y5 - 11) o_players o_bars o_price o_breath o_kind o_looks o_noise o_repeat o_now o_readPlayer o_readBar o_readPlayers o_readBars o_text o_length o_at o_faultAt o_acts o_next o_row o_heard o_heardOf o_heardBars o_heardPlays o_hushWho o_hushSum y4 o_isKept o_kept v23.2.2 np enp (by omega) nb enb (by omega) 1 (show (1 : Int32) = nI 1 from rfl) (by omega) hJ23 r10 er10) (cwV 2 hts gX5_nights_X5_giveOn rfl rfl rfl (by decide +kernel) ⟨Nat.le_of_ble_eq_true rfl, Nat.le_of_ble_eq_true rfl⟩) (hgPreV (C := RX5) (T := TX5) (N := 29) (ci := 5) (q0 := 0) hP hD hK hN [0, 1] rfl rfl rfl rfl) rfl rfl hl.1 rfl (lv_room (Nat.le_of_ble_eq_true rfl)) dX5_nights_103 ⟨Nat.zero_le _, Nat.zero_le _⟩) hP hD hS hA (wr := [(o_noise, .inl (cI, 8, .inl o_noise_v)), (o_kind, .inl (cI, 6, .inl o_kind_v)), (o_looks, .inl (cI, 6, .inl o_looks_v)), (o_repeat, .inl (cI, 8, .inl o_repeat_v)), (o_price, .inl (cI, 6, .inl o_price_v)), (o_breath, .inl (cI, 6, .inl o_breath_v))]) (wf := [(o_h, .inr (5, [.int o_players, .int o_bars, .ref o_price, .ref o_breath, .ref o_kind, .ref o_looks, .ref o_noise, .ref o_repeat, .ref o_now, .ref o_readPlayer, .ref o_readBar, .int o_readPlayers, .int o_readBars, .ref o_text, .int o_length, .int o_at, .int o_faultAt, .int o_acts, .int o_next, .ref o_row, .int o_heard, .ref o_heardOf, .ref o_heardBars, .ref o_heardPlays, .int o_hushWho, .int o_hushSum, .long y4, .ref o_isKept, .ref o_kept])), (o_now, .inl (cI, 32, .inl r10)), (o_noise, .inl (cI, 8, .inl o_noise_v)), (o_kind, .inl (cI, 6, .inl o_kind_v)), (o_looks, .inl (cI, 6, .inl o_looks_v)), (o_repeat, .inl (cI, 8, .inl o_repeat_v)), (o_price, .inl (cI, 6, .inl o_price_v)), (o_breath, .inl (cI, 6, .inl o_breath_v))]) [0, 1] [2, 3, 4, 5, 6, 7] [6, 7, 0, 1, 2, 3, 4, 5] rfl rfl rfl (by decide) rfl rfl (fun hB11 H locs hP hD hS => ?_)
            refine lv_goto (tgt := 132) hx hb dX5_nights_106 (by decide) ?_
            refine lv_iload_n hx hb dX5_nights_132 rfl (lv_at hl 3 rfl) ?_
            refine lv_aload_n hx hb dX5_nights_133 rfl (lv_at hl 1 rfl) ?_
            refine lv_iconst (v := 1) hx hb dX5_nights_134 (by decide) ?_
            obtain ⟨r12, er12, hw⟩ := lxb_o hw
            refine hg_ci (va_runV (As := [.int 1]) (rest := [.int v23.1]) ⟨hx, hb, hml, hown, hts⟩ (c_X5_howMany l dC dI cI cZ cM _ o_h 1 o_players o_bars o_price o_breath o_kind o_looks o_noise o_repeat o_now o_readPlayer o_readBar o_readPlayers o_readBars o_text o_length o_at o_faultAt o_acts o_next o_row o_heard o_heardOf o_heardBars o_heardPlays o_hushWho o_hushSum y4 o_isKept o_kept r10 np enp (by omega) nb enb (by omega) 1 (show (1 : Int32) = nI 1 from rfl) (by omega) r12 er12) (cwV 1 hts gX5_nights_X5_howMany rfl rfl rfl (by decide +kernel) ⟨Nat.le_of_ble_eq_true rfl, Nat.le_of_ble_eq_true rfl⟩) (hgPreV (C := RX5) (T := TX5) (N := 29) (ci := 5) (q0 := 0) hP hD hK hN [0, 1] rfl rfl rfl rfl) rfl rfl hl.1 rfl (lv_room (Nat.le_of_ble_eq_true rfl)) dX5_nights_135 ⟨Nat.zero_le _, Nat.zero_le _⟩) hP hD hS hA (wr := [(o_noise, .inl (cI, 8, .inl o_noise_v)), (o_kind, .inl (cI, 6, .inl o_kind_v)), (o_looks, .inl (cI, 6, .inl o_looks_v)), (o_repeat, .inl (cI, 8, .inl o_repeat_v)), (o_price, .inl (cI, 6, .inl o_price_v)), (o_breath, .inl (cI, 6, .inl o_breath_v))]) (wf := [(o_h, .inr (5, [.int o_players, .int o_bars, .ref o_price, .ref o_breath, .ref o_kind, .ref o_looks, .ref o_noise, .ref o_repeat, .ref o_now, .ref o_readPlayer, .ref o_readBar, .int o_readPlayers, .int o_readBars, .ref o_text, .int o_length, .int o_at, .int o_faultAt, .int o_acts, .int o_next, .ref o_row, .int o_heard, .ref o_heardOf, .ref o_heardBars, .ref o_heardPlays, .int o_hushWho, .int o_hushSum, .long y4, .ref o_isKept, .ref o_kept])), (o_now, .inl (cI, 32, .inl r10)), (o_noise, .inl (cI, 8, .inl o_noise_v)), (o_kind, .inl (cI, 6, .inl o_kind_v)), (o_looks, .inl (cI, 6, .inl o_looks_v)), (o_repeat, .inl (cI, 8, .inl o_repeat_v)), (o_price, .inl (cI, 6, .inl o_price_v)), (o_breath, .inl (cI, 6, .inl o_breath_v))]) [0, 1] [2, 3, 4, 5, 6, 7] [6, 7, 0, 1, 2, 3, 4, 5] rfl rfl rfl (by decide) rfl rfl (fun H locs hP hD hS => ?_)
            refine lv_iadd hx hb dX5_nights_138 ?_
            refine lv_istore_n (lv' := [(2, .int (v23.1 + r12)), (4, .int y5), (0, .ref o_h), (1, .int x0), (3, .int (nI k23))]) hx hb dX5_nights_139 rfl hl (by decide) rfl (fun ls hl => ?_)
            refine lv_iinc (v := nI (k23 + 1)) (lv' := [(3, .int (nI (k23 + 1))), (2, .int (v23.1 + r12)), (4, .int y5), (0, .ref o_h), (1, .int x0)]) hx hb dX5_nights_140 hl (k := 4) rfl (nI_1 k23) (by decide) rfl (fun ls hl => ?_)
            refine lv_goto (tgt := 23) hx hb dX5_nights_143 (by decide) ?_
            subst hw
            exact ih hB11 _ _ _ hP hD hS (lv_sub hl [3, 4, 1, 0] rfl)
        · have hw := hw.trans (if_pos c_78)
          refine lv_aload_n hx hb dX5_nights_81 rfl (lv_at hl 1 rfl) ?_
          refine lv_iconst (v := 1) hx hb dX5_nights_82 (by decide) ?_
          obtain ⟨r13, er13, hw⟩ := lxb_o hw
          refine hg_cvE (va_runV (As := [.int 1]) (rest := []) ⟨hx, hb, hml, hown, hts⟩ (c_X5_beginOn l dC dI cI cZ cM _ o_h 1 o_players o_bars o_price o_breath o_kind o_looks o_noise o_repeat o_now o_readPlayer o_readBar o_readPlayers o_readBars o_text o_length o_at o_faultAt o_acts o_next o_row o_heard o_heardOf o_heardBars o_heardPlays o_hushWho o_hushSum y4 o_isKept o_kept v23.2.2 np enp (by omega) nb enb (by omega) 1 (show (1 : Int32) = nI 1 from rfl) (by omega) hJ23 r13 er13) (cwV 1 hts gX5_nights_X5_beginOn rfl rfl rfl (by decide +kernel) ⟨Nat.le_of_ble_eq_true rfl, Nat.le_of_ble_eq_true rfl⟩) (hgPreV (C := RX5) (T := TX5) (N := 29) (ci := 5) (q0 := 0) hP hD hK hN [0, 1] rfl rfl rfl rfl) rfl rfl hl.1 rfl (lv_room (Nat.le_of_ble_eq_true rfl)) dX5_nights_83 ⟨Nat.zero_le _, Nat.zero_le _⟩) hP hD hS hA (wr := [(o_noise, .inl (cI, 8, .inl o_noise_v)), (o_kind, .inl (cI, 6, .inl o_kind_v)), (o_looks, .inl (cI, 6, .inl o_looks_v)), (o_repeat, .inl (cI, 8, .inl o_repeat_v)), (o_price, .inl (cI, 6, .inl o_price_v)), (o_breath, .inl (cI, 6, .inl o_breath_v))]) (wf := [(o_h, .inr (5, [.int o_players, .int o_bars, .ref o_price, .ref o_breath, .ref o_kind, .ref o_looks, .ref o_noise, .ref o_repeat, .ref o_now, .ref o_readPlayer, .ref o_readBar, .int o_readPlayers, .int o_readBars, .ref o_text, .int o_length, .int o_at, .int o_faultAt, .int o_acts, .int o_next, .ref o_row, .int o_heard, .ref o_heardOf, .ref o_heardBars, .ref o_heardPlays, .int o_hushWho, .int o_hushSum, .long y4, .ref o_isKept, .ref o_kept])), (o_now, .inl (cI, 32, .inl r13)), (o_noise, .inl (cI, 8, .inl o_noise_v)), (o_kind, .inl (cI, 6, .inl o_kind_v)), (o_looks, .inl (cI, 6, .inl o_looks_v)), (o_repeat, .inl (cI, 8, .inl o_repeat_v)), (o_price, .inl (cI, 6, .inl o_price_v)), (o_breath, .inl (cI, 6, .inl o_breath_v))]) [0, 1] [2, 3, 4, 5, 6, 7] [6, 7, 0, 1, 2, 3, 4, 5] rfl rfl rfl (by decide) rfl rfl (fun hB14 H locs hP hD hS => ?_)
          refine lv_goto (tgt := 132) hx hb dX5_nights_86 (by decide) ?_
          refine lv_iload_n hx hb dX5_nights_132 rfl (lv_at hl 3 rfl) ?_
          refine lv_aload_n hx hb dX5_nights_133 rfl (lv_at hl 1 rfl) ?_
          refine lv_iconst (v := 1) hx hb dX5_nights_134 (by decide) ?_
          obtain ⟨r15, er15, hw⟩ := lxb_o hw
          refine hg_ci (va_runV (As := [.int 1]) (rest := [.int v23.1]) ⟨hx, hb, hml, hown, hts⟩ (c_X5_howMany l dC dI cI cZ cM _ o_h 1 o_players o_bars o_price o_breath o_kind o_looks o_noise o_repeat o_now o_readPlayer o_readBar o_readPlayers o_readBars o_text o_length o_at o_faultAt o_acts o_next o_row o_heard o_heardOf o_heardBars o_heardPlays o_hushWho o_hushSum y4 o_isKept o_kept r13 np enp (by omega) nb enb (by omega) 1 (show (1 : Int32) = nI 1 from rfl) (by omega) r15 er15) (cwV 1 hts gX5_nights_X5_howMany rfl rfl rfl (by decide +kernel) ⟨Nat.le_of_ble_eq_true rfl, Nat.le_of_ble_eq_true rfl⟩) (hgPreV (C := RX5) (T := TX5) (N := 29) (ci := 5) (q0 := 0) hP hD hK hN [0, 1] rfl rfl rfl rfl) rfl rfl hl.1 rfl (lv_room (Nat.le_of_ble_eq_true rfl)) dX5_nights_135 ⟨Nat.zero_le _, Nat.zero_le _⟩) hP hD hS hA (wr := [(o_noise, .inl (cI, 8, .inl o_noise_v)), (o_kind, .inl (cI, 6, .inl o_kind_v)), (o_looks, .inl (cI, 6, .inl o_looks_v)), (o_repeat, .inl (cI, 8, .inl o_repeat_v)), (o_price, .inl (cI, 6, .inl o_price_v)), (o_breath, .inl (cI, 6, .inl o_breath_v))]) (wf := [(o_h, .inr (5, [.int o_players, .int o_bars, .ref o_price, .ref o_breath, .ref o_kind, .ref o_looks, .ref o_noise, .ref o_repeat, .ref o_now, .ref o_readPlayer, .ref o_readBar, .int o_readPlayers, .int o_readBars, .ref o_text, .int o_length, .int o_at, .int o_faultAt, .int o_acts, .int o_next, .ref o_row, .int o_heard, .ref o_heardOf, .ref o_heardBars, .ref o_heardPlays, .int o_hushWho, .int o_hushSum, .long y4, .ref o_isKept, .ref o_kept])), (o_now, .inl (cI, 32, .inl r13)), (o_noise, .inl (cI, 8, .inl o_noise_v)), (o_kind, .inl (cI, 6, .inl o_kind_v)), (o_looks, .inl (cI, 6, .inl o_looks_v)), (o_repeat, .inl (cI, 8, .inl o_repeat_v)), (o_price, .inl (cI, 6, .inl o_price_v)), (o_breath, .inl (cI, 6, .inl o_breath_v))]) [0, 1] [2, 3, 4, 5, 6, 7] [6, 7, 0, 1, 2, 3, 4, 5] rfl rfl rfl (by decide) rfl rfl (fun H locs hP hD hS => ?_)
          refine lv_iadd hx hb dX5_nights_138 ?_
          refine lv_istore_n (lv' := [(2, .int (v23.1 + r15)), (4, .int y5), (0, .ref o_h), (1, .int x0), (3, .int (nI k23))]) hx hb dX5_nights_139 rfl hl (by decide) rfl (fun ls hl => ?_)
          refine lv_iinc (v := nI (k23 + 1)) (lv' := [(3, .int (nI (k23 + 1))), (2, .int (v23.1 + r15)), (4, .int y5), (0, .ref o_h), (1, .int x0)]) hx hb dX5_nights_140 hl (k := 4) rfl (nI_1 k23) (by decide) rfl (fun ls hl => ?_)
          refine lv_goto (tgt := 23) hx hb dX5_nights_143 (by decide) ?_
          subst hw
          exact ih hB14 _ _ _ hP hD hS (lv_sub hl [3, 4, 1, 0] rfl)
      · have hw := hw.trans (if_neg c_62)
        refine lv_aload_n hx hb dX5_nights_65 rfl (lv_at hl 1 rfl) ?_
        refine lv_iconst (v := 1) hx hb dX5_nights_66 (by decide) ?_
        obtain ⟨r16, er16, hw⟩ := lxb_o hw
        refine hg_ciE (va_runV (As := [.int 1]) (rest := []) ⟨hx, hb, hml, hown, hts⟩ (c_X5_passOn l dC dI cI cZ cM _ o_h 1 o_players o_bars o_price o_breath o_kind o_looks o_noise o_repeat o_now o_readPlayer o_readBar o_readPlayers o_readBars o_text o_length o_at o_faultAt o_acts o_next o_row o_heard o_heardOf o_heardBars o_heardPlays o_hushWho o_hushSum y4 o_isKept o_kept v23.2.2 o_noise_v o_kind_v o_looks_v o_repeat_v np enp (by omega) nb enb (by omega) 1 (show (1 : Int32) = nI 1 from rfl) (by omega) hJ23 r16 er16) (cwV 1 hts gX5_nights_X5_passOn rfl rfl rfl (by decide +kernel) ⟨Nat.le_of_ble_eq_true rfl, Nat.le_of_ble_eq_true rfl⟩) (hgPreV (C := RX5) (T := TX5) (N := 29) (ci := 5) (q0 := 0) hP hD hK hN [0, 1, 2, 3, 4, 5] rfl rfl rfl rfl) rfl rfl hl.1 rfl (lv_room (Nat.le_of_ble_eq_true rfl)) dX5_nights_67 ⟨Nat.zero_le _, Nat.zero_le _⟩) hP hD hS hA (wr := [(o_price, .inl (cI, 6, .inl o_price_v)), (o_breath, .inl (cI, 6, .inl o_breath_v))]) (wf := [(o_h, .inr (5, [.int o_players, .int o_bars, .ref o_price, .ref o_breath, .ref o_kind, .ref o_looks, .ref o_noise, .ref o_repeat, .ref o_now, .ref o_readPlayer, .ref o_readBar, .int o_readPlayers, .int o_readBars, .ref o_text, .int o_length, .int o_at, .int o_faultAt, .int o_acts, .int o_next, .ref o_row, .int o_heard, .ref o_heardOf, .ref o_heardBars, .ref o_heardPlays, .int o_hushWho, .int o_hushSum, .long y4, .ref o_isKept, .ref o_kept])), (o_now, .inl (cI, 32, .inl r16.2)), (o_noise, .inl (cI, 8, .inl o_noise_v)), (o_kind, .inl (cI, 6, .inl o_kind_v)), (o_looks, .inl (cI, 6, .inl o_looks_v)), (o_repeat, .inl (cI, 8, .inl o_repeat_v)), (o_price, .inl (cI, 6, .inl o_price_v)), (o_breath, .inl (cI, 6, .inl o_breath_v))]) [0, 1, 2, 3, 4, 5] [6, 7] [2, 3, 4, 5, 6, 7, 0, 1] rfl rfl rfl (by decide) rfl rfl (fun hB17 H locs hP hD hS => ?_)
        refine lv_pop hx hb dX5_nights_70 rfl ?_
        refine lv_goto (tgt := 132) hx hb dX5_nights_71 (by decide) ?_
        refine lv_iload_n hx hb dX5_nights_132 rfl (lv_at hl 3 rfl) ?_
        refine lv_aload_n hx hb dX5_nights_133 rfl (lv_at hl 1 rfl) ?_
        refine lv_iconst (v := 1) hx hb dX5_nights_134 (by decide) ?_
        obtain ⟨r18, er18, hw⟩ := lxb_o hw
        refine hg_ci (va_runV (As := [.int 1]) (rest := [.int v23.1]) ⟨hx, hb, hml, hown, hts⟩ (c_X5_howMany l dC dI cI cZ cM _ o_h 1 o_players o_bars o_price o_breath o_kind o_looks o_noise o_repeat o_now o_readPlayer o_readBar o_readPlayers o_readBars o_text o_length o_at o_faultAt o_acts o_next o_row o_heard o_heardOf o_heardBars o_heardPlays o_hushWho o_hushSum y4 o_isKept o_kept r16.2 np enp (by omega) nb enb (by omega) 1 (show (1 : Int32) = nI 1 from rfl) (by omega) r18 er18) (cwV 1 hts gX5_nights_X5_howMany rfl rfl rfl (by decide +kernel) ⟨Nat.le_of_ble_eq_true rfl, Nat.le_of_ble_eq_true rfl⟩) (hgPreV (C := RX5) (T := TX5) (N := 29) (ci := 5) (q0 := 0) hP hD hK hN [0, 1] rfl rfl rfl rfl) rfl rfl hl.1 rfl (lv_room (Nat.le_of_ble_eq_true rfl)) dX5_nights_135 ⟨Nat.zero_le _, Nat.zero_le _⟩) hP hD hS hA (wr := [(o_noise, .inl (cI, 8, .inl o_noise_v)), (o_kind, .inl (cI, 6, .inl o_kind_v)), (o_looks, .inl (cI, 6, .inl o_looks_v)), (o_repeat, .inl (cI, 8, .inl o_repeat_v)), (o_price, .inl (cI, 6, .inl o_price_v)), (o_breath, .inl (cI, 6, .inl o_breath_v))]) (wf := [(o_h, .inr (5, [.int o_players, .int o_bars, .ref o_price, .ref o_breath, .ref o_kind, .ref o_looks, .ref o_noise, .ref o_repeat, .ref o_now, .ref o_readPlayer, .ref o_readBar, .int o_readPlayers, .int o_readBars, .ref o_text, .int o_length, .int o_at, .int o_faultAt, .int o_acts, .int o_next, .ref o_row, .int o_heard, .ref o_heardOf, .ref o_heardBars, .ref o_heardPlays, .int o_hushWho, .int o_hushSum, .long y4, .ref o_isKept, .ref o_kept])), (o_now, .inl (cI, 32, .inl r16.2)), (o_noise, .inl (cI, 8, .inl o_noise_v)), (o_kind, .inl (cI, 6, .inl o_kind_v)), (o_looks, .inl (cI, 6, .inl o_looks_v)), (o_repeat, .inl (cI, 8, .inl o_repeat_v)), (o_price, .inl (cI, 6, .inl o_price_v)), (o_breath, .inl (cI, 6, .inl o_breath_v))]) [0, 1] [2, 3, 4, 5, 6, 7] [6, 7, 0, 1, 2, 3, 4, 5] rfl rfl rfl (by decide) rfl rfl (fun H locs hP hD hS => ?_)
        refine lv_iadd hx hb dX5_nights_138 ?_
        refine lv_istore_n (lv' := [(2, .int (v23.1 + r18)), (4, .int y5), (0, .ref o_h), (1, .int x0), (3, .int (nI k23))]) hx hb dX5_nights_139 rfl hl (by decide) rfl (fun ls hl => ?_)
        refine lv_iinc (v := nI (k23 + 1)) (lv' := [(3, .int (nI (k23 + 1))), (2, .int (v23.1 + r18)), (4, .int y5), (0, .ref o_h), (1, .int x0)]) hx hb dX5_nights_140 hl (k := 4) rfl (nI_1 k23) (by decide) rfl (fun ls hl => ?_)
        refine lv_goto (tgt := 23) hx hb dX5_nights_143 (by decide) ?_
        subst hw
        exact ih hB17 _ _ _ hP hD hS (lv_sub hl [3, 4, 1, 0] rfl)
  · have hu := hu.trans (if_pos c_9)
    refine lv_bipush (v := (-2)) hx hb dX5_nights_12 (by decide) ?_
    subst hu
    exact hg_ri hx hb hr hlk rfl hP hD hS dX5_nights_14

set_option maxHeartbeats 4000000 in
set_option maxRecDepth 100000 in
theorem c_X5_keep (l : Launch) (dC : Nat → ClassId) (dI : Nat → Nat → Nat) (cI cZ cM : ClassId) (sz : Nat) (o_h : Nat) (x0 : Int32) (o_players : Int32) (o_bars : Int32) (o_price : Nat) (o_breath : Nat) (o_kind : Nat) (o_looks : Nat) (o_noise : Nat) (o_repeat : Nat) (o_now : Nat) (o_readPlayer : Nat) (o_readBar : Nat) (o_readPlayers : Int32) (o_readBars : Int32) (o_text : Nat) (o_length : Int32) (o_at : Int32) (o_faultAt : Int32) (o_acts : Int32) (o_next : Int32) (o_row : Nat) (o_heard : Int32) (o_heardOf : Nat) (o_heardBars : Nat) (o_heardPlays : Nat) (o_hushWho : Int32) (o_hushSum : Int32) (o_seed : Int64) (o_isKept : Nat) (o_kept : Nat) (o_isKept_v : Nat → Int32) (o_now_v : Nat → Int32) (o_kept_v : Nat → Int32) (np : Nat) (enp : o_players = nI np) (hnp : np ≤ 6) (nb : Nat) (enb : o_bars = nI nb) (hnb : nb ≤ 8) (u : Int32 × (Nat → Int32) × (Nat → Int32)) (hu : u = f_X5_keep x0 o_isKept_v o_now_v o_kept_v) : Met l yX5_keep wsX5_keep { frames := 1, cells := 0, slots := 0, locals := 25 } (hgPc [.ref o_h, .int x0] (dC, dI) cI cZ cM [(o_h, .inr (5, [.int o_players, .int o_bars, .ref o_price, .ref o_breath, .ref o_kind, .ref o_looks, .ref o_noise, .ref o_repeat, .ref o_now, .ref o_readPlayer, .ref o_readBar, .int o_readPlayers, .int o_readBars, .ref o_text, .int o_length, .int o_at, .int o_faultAt, .int o_acts, .int o_next, .ref o_row, .int o_heard, .ref o_heardOf, .ref o_heardBars, .ref o_heardPlays, .int o_hushWho, .int o_hushSum, .long o_seed, .ref o_isKept, .ref o_kept])), (o_isKept, .inl (cZ, 2, .inl o_isKept_v)), (o_now, .inl (cI, 32, .inl o_now_v)), (o_kept, .inl (cI, 32, .inl o_kept_v))] sz) (hgQi (dC, dI) u.1 [(o_h, .inr (5, [.int o_players, .int o_bars, .ref o_price, .ref o_breath, .ref o_kind, .ref o_looks, .ref o_noise, .ref o_repeat, .ref o_now, .ref o_readPlayer, .ref o_readBar, .int o_readPlayers, .int o_readBars, .ref o_text, .int o_length, .int o_at, .int o_faultAt, .int o_acts, .int o_next, .ref o_row, .int o_heard, .ref o_heardOf, .ref o_heardBars, .ref o_heardPlays, .int o_hushWho, .int o_hushSum, .long o_seed, .ref o_isKept, .ref o_kept])), (o_isKept, .inl (cZ, 2, .inl u.2.1)), (o_now, .inl (cI, 32, .inl o_now_v)), (o_kept, .inl (cI, 32, .inl u.2.2))] (va_A [(o_h, .inr (5, [.int o_players, .int o_bars, .ref o_price, .ref o_breath, .ref o_kind, .ref o_looks, .ref o_noise, .ref o_repeat, .ref o_now, .ref o_readPlayer, .ref o_readBar, .int o_readPlayers, .int o_readBars, .ref o_text, .int o_length, .int o_at, .int o_faultAt, .int o_acts, .int o_next, .ref o_row, .int o_heard, .ref o_heardOf, .ref o_heardBars, .ref o_heardPlays, .int o_hushWho, .int o_hushSum, .long o_seed, .ref o_isKept, .ref o_kept])), (o_isKept, .inl (cZ, 2, .inl o_isKept_v)), (o_now, .inl (cI, 32, .inl o_now_v)), (o_kept, .inl (cI, 32, .inl o_kept_v))] sz)) 0 0 (va_A [(o_h, .inr (5, [.int o_players, .int o_bars, .ref o_price, .ref o_breath, .ref o_kind, .ref o_looks, .ref o_noise, .ref o_repeat, .ref o_now, .ref o_readPlayer, .ref o_readBar, .int o_readPlayers, .int o_readBars, .ref o_text, .int o_length, .int o_at, .int o_faultAt, .int o_acts, .int o_next, .ref o_row, .int o_heard, .ref o_heardOf, .ref o_heardBars, .ref o_heardPlays, .int o_hushWho, .int o_hushSum, .long o_seed, .ref o_isKept, .ref o_kept])), (o_isKept, .inl (cZ, 2, .inl o_isKept_v)), (o_now, .inl (cI, 32, .inl o_now_v)), (o_kept, .inl (cI, 32, .inl o_kept_v))] sz) := by
  refine hg_ofW (cc := cX5_keep) (maxL := 3) (ret := (some .int)) (own := RX5) (fun A => hgQi (dC, dI) u.1 [(o_h, .inr (5, [.int o_players, .int o_bars, .ref o_price, .ref o_breath, .ref o_kind, .ref o_looks, .ref o_noise, .ref o_repeat, .ref o_now, .ref o_readPlayer, .ref o_readBar, .int o_readPlayers, .int o_readBars, .ref o_text, .int o_length, .int o_at, .int o_faultAt, .int o_acts, .int o_next, .ref o_row, .int o_heard, .ref o_heardOf, .ref o_heardBars, .ref o_heardPlays, .int o_hushWho, .int o_hushSum, .long o_seed, .ref o_isKept, .ref o_kept])), (o_isKept, .inl (cZ, 2, .inl u.2.1)), (o_now, .inl (cI, 32, .inl o_now_v)), (o_kept, .inl (cI, 32, .inl u.2.2))] A) rfl (by decide) rfl (Nat.le_of_ble_eq_true rfl) ?_
  intro p e s m below meth c ls A hsz hx hb hr hml hown hts hlk hnm hK hN hA hP hD hS hl
  subst hsz
  have w1 := hts (.fieldLink RX5 52 "HatGoesRoundModel" "isKept" "[Z") (List.mem_of_getElem? (i := 1) rfl)
  have hinX5 : ∀ w ∈ u_ws RX5 TX5 29, w ∈ wsX5_keep := fun _ h => List.mem_cons_of_mem _ (List.mem_append_right _ h)
  have w2 := hts (.fieldLink RX5 56 "HatGoesRoundModel" "kept" "[I") (List.mem_of_getElem? (i := 2) rfl)
  have w3 := hts (.fieldLink RX5 28 "HatGoesRoundModel" "now" "[I") (List.mem_of_getElem? (i := 3) rfl)
  have hl : lv_has ls 3 [(0, .ref o_h), (1, .int x0)] := hl
  unfold f_X5_keep at hu
  refine lv_iload_n hx hb dX5_keep_0 rfl (lv_at hl 1 rfl) ?_
  refine lv_i2l (v := (Int32.toInt64 x0)) hx hb dX5_keep_1 rfl ?_
  refine lv_lconst (v := 0) hx hb dX5_keep_2 (by decide) ?_
  refine lv_lconst (v := 1) hx hb dX5_keep_3 (by decide) ?_
  obtain ⟨r1, er1, hu⟩ := lxb_o hu
  refine hg_ci (va_runS (As := [.long (Int32.toInt64 x0), .long 0, .long 1]) (rest := []) ⟨hx, hb, hml, hown, hts⟩ (c_X5_in l dC dI cI cZ cM _ (Int32.toInt64 x0) 0 1 r1 er1) (va_cwS 3 hts gX5_keep_X5_in rfl rfl rfl (by decide +kernel) ⟨Nat.le_of_ble_eq_true rfl, Nat.le_of_ble_eq_true rfl⟩) (hgPreS hP hD hK hN [] rfl rfl) rfl rfl hl.1 rfl (lv_room (Nat.le_of_ble_eq_true rfl)) dX5_keep_4 ⟨Nat.zero_le _, Nat.zero_le _⟩) hP hD hS hA (wr := [(o_h, .inr (5, [.int o_players, .int o_bars, .ref o_price, .ref o_breath, .ref o_kind, .ref o_looks, .ref o_noise, .ref o_repeat, .ref o_now, .ref o_readPlayer, .ref o_readBar, .int o_readPlayers, .int o_readBars, .ref o_text, .int o_length, .int o_at, .int o_faultAt, .int o_acts, .int o_next, .ref o_row, .int o_heard, .ref o_heardOf, .ref o_heardBars, .ref o_heardPlays, .int o_hushWho, .int o_hushSum, .long o_seed, .ref o_isKept, .ref o_kept])), (o_isKept, .inl (cZ, 2, .inl o_isKept_v)), (o_now, .inl (cI, 32, .inl o_now_v)), (o_kept, .inl (cI, 32, .inl o_kept_v))]) (wf := [(o_h, .inr (5, [.int o_players, .int o_bars, .ref o_price, .ref o_breath, .ref o_kind, .ref o_looks, .ref o_noise, .ref o_repeat, .ref o_now, .ref o_readPlayer, .ref o_readBar, .int o_readPlayers, .int o_readBars, .ref o_text, .int o_length, .int o_at, .int o_faultAt, .int o_acts, .int o_next, .ref o_row, .int o_heard, .ref o_heardOf, .ref o_heardBars, .ref o_heardPlays, .int o_hushWho, .int o_hushSum, .long o_seed, .ref o_isKept, .ref o_kept])), (o_isKept, .inl (cZ, 2, .inl o_isKept_v)), (o_now, .inl (cI, 32, .inl o_now_v)), (o_kept, .inl (cI, 32, .inl o_kept_v))]) [] [0, 1, 2, 3] [0, 1, 2, 3] rfl rfl rfl (by decide) rfl rfl (fun H locs hP hD hS => ?_)
  refine lv_if_ne (tgt := 12) hx hb dX5_keep_7 (by decide) (fun c_7 => ?_) (fun c_7 => ?_)
  · have hu := hu.trans (if_neg c_7)
    obtain ⟨js, hjs, ejs⟩ := mS er1 c_7
    refine lv_aload_n hx hb dX5_keep_12 rfl (lv_at hl 0 rfl) ?_
    refine va_get (D := (dC, dI)) (ci := 5) (v := .ref o_isKept) (C := RX5) (T := TX5) (N := 29) hx hb hts hinX5 hown hK hP 0 rfl rfl 27 (by decide) w1 (fun _ h9 => h9) rfl dX5_keep_13 ?_
    refine lv_iload_n hx hb dX5_keep_16 rfl (lv_at hl 1 rfl) ?_
    refine lv_iconst (v := 1) hx hb dX5_keep_17 (by decide) ?_
    refine va_zast hx hb hK hP hD hS 1 1 rfl rfl (n := 2) (f := o_isKept_v) (hg_in (n := js) (N := 2) ejs (by omega) (by decide)) dX5_keep_18 (fun H locs hP hD hS => ?_)
    have hP : va_P (dC, dI) vwCl [(o_h, .inr (5, [.int o_players, .int o_bars, .ref o_price, .ref o_breath, .ref o_kind, .ref o_looks, .ref o_noise, .ref o_repeat, .ref o_now, .ref o_readPlayer, .ref o_readBar, .int o_readPlayers, .int o_readBars, .ref o_text, .int o_length, .int o_at, .int o_faultAt, .int o_acts, .int o_next, .ref o_row, .int o_heard, .ref o_heardOf, .ref o_heardBars, .ref o_heardPlays, .int o_hushWho, .int o_hushSum, .long o_seed, .ref o_isKept, .ref o_kept])), (o_isKept, .inl (cZ, 2, .inl (upd o_isKept_v (Int32.toNatClampNeg x0) (vp_nar .boolean 1)))), (o_now, .inl (cI, 32, .inl o_now_v)), (o_kept, .inl (cI, 32, .inl o_kept_v))] H := hP
    have hD : va_D A [(o_h, .inr (5, [.int o_players, .int o_bars, .ref o_price, .ref o_breath, .ref o_kind, .ref o_looks, .ref o_noise, .ref o_repeat, .ref o_now, .ref o_readPlayer, .ref o_readBar, .int o_readPlayers, .int o_readBars, .ref o_text, .int o_length, .int o_at, .int o_faultAt, .int o_acts, .int o_next, .ref o_row, .int o_heard, .ref o_heardOf, .ref o_heardBars, .ref o_heardPlays, .int o_hushWho, .int o_hushSum, .long o_seed, .ref o_isKept, .ref o_kept])), (o_isKept, .inl (cZ, 2, .inl (upd o_isKept_v (Int32.toNatClampNeg x0) (vp_nar .boolean 1)))), (o_now, .inl (cI, 32, .inl o_now_v)), (o_kept, .inl (cI, 32, .inl o_kept_v))] := hD
    refine lv_iconst (v := 0) hx hb dX5_keep_19 (by decide) ?_
    refine lv_istore_n (lv' := [(2, .int 0), (0, .ref o_h), (1, .int x0)]) hx hb dX5_keep_20 rfl hl (by decide) rfl (fun ls hl => ?_)
    obtain ⟨r3, er3, hu⟩ := lxb_o hu
    refine hg_loopF (T := (Nat → Int32)) (N := (itn 0 16)) (fun v21 => [(o_h, .inr (5, [.int o_players, .int o_bars, .ref o_price, .ref o_breath, .ref o_kind, .ref o_looks, .ref o_noise, .ref o_repeat, .ref o_now, .ref o_readPlayer, .ref o_readBar, .int o_readPlayers, .int o_readBars, .ref o_text, .int o_length, .int o_at, .int o_faultAt, .int o_acts, .int o_next, .ref o_row, .int o_heard, .ref o_heardOf, .ref o_heardBars, .ref o_heardPlays, .int o_hushWho, .int o_hushSum, .long o_seed, .ref o_isKept, .ref o_kept])), (o_isKept, .inl (cZ, 2, .inl (upd o_isKept_v (Int32.toNatClampNeg x0) (vp_nar .boolean 1)))), (o_now, .inl (cI, 32, .inl o_now_v)), (o_kept, .inl (cI, 32, .inl v21))]) (fun k21 v21 => [(0, .ref o_h), (1, .int x0), (2, .int (nI k21))]) (fun k21 => l_X5_keep_21 x0 o_now_v o_kept_v k21) ?_ ?_ hP hD hS (lv_sub hl [1, 2, 0] rfl)
    · intro v21 hv H locs ls hP hD hS hl
      obtain rfl : r3 = v21 := er3.trans hv.symm
      have hP : va_P (dC, dI) vwCl [(o_h, .inr (5, [.int o_players, .int o_bars, .ref o_price, .ref o_breath, .ref o_kind, .ref o_looks, .ref o_noise, .ref o_repeat, .ref o_now, .ref o_readPlayer, .ref o_readBar, .int o_readPlayers, .int o_readBars, .ref o_text, .int o_length, .int o_at, .int o_faultAt, .int o_acts, .int o_next, .ref o_row, .int o_heard, .ref o_heardOf, .ref o_heardBars, .ref o_heardPlays, .int o_hushWho, .int o_hushSum, .long o_seed, .ref o_isKept, .ref o_kept])), (o_isKept, .inl (cZ, 2, .inl (upd o_isKept_v (Int32.toNatClampNeg x0) (vp_nar .boolean 1)))), (o_now, .inl (cI, 32, .inl o_now_v)), (o_kept, .inl (cI, 32, .inl r3))] H := hP
      have hD : va_D A [(o_h, .inr (5, [.int o_players, .int o_bars, .ref o_price, .ref o_breath, .ref o_kind, .ref o_looks, .ref o_noise, .ref o_repeat, .ref o_now, .ref o_readPlayer, .ref o_readBar, .int o_readPlayers, .int o_readBars, .ref o_text, .int o_length, .int o_at, .int o_faultAt, .int o_acts, .int o_next, .ref o_row, .int o_heard, .ref o_heardOf, .ref o_heardBars, .ref o_heardPlays, .int o_hushWho, .int o_hushSum, .long o_seed, .ref o_isKept, .ref o_kept])), (o_isKept, .inl (cZ, 2, .inl (upd o_isKept_v (Int32.toNatClampNeg x0) (vp_nar .boolean 1)))), (o_now, .inl (cI, 32, .inl o_now_v)), (o_kept, .inl (cI, 32, .inl r3))] := hD
      have hl : lv_has ls 3 [(0, .ref o_h), (1, .int x0), (2, .int (nI (itn 0 16)))] := hl
      refine lv_iload_n hx hb dX5_keep_21 rfl (lv_at hl 2 rfl) ?_
      refine lv_bipush (v := 16) hx hb dX5_keep_22 (by decide) ?_
      refine lv_icmp_ge (tgt := 50) hx hb dX5_keep_24 (by decide) (fun c_24 => ?_) (fun c_24 => absurd hg_lo0 c_24)
      refine lv_aload_n hx hb dX5_keep_50 rfl (lv_at hl 0 rfl) ?_
      refine va_get (D := (dC, dI)) (ci := 5) (v := .ref o_now) (C := RX5) (T := TX5) (N := 29) hx hb hts hinX5 hown hK hP 0 rfl rfl 8 (by decide) w3 (fun _ h9 => h9) rfl dX5_keep_51 ?_
      refine lv_bipush (v := 15) hx hb dX5_keep_54 (by decide) ?_
      refine va_iald hx hb hK hP 2 0 rfl rfl (n := 32) (f := o_now_v) (hg_in (n := 15) (N := 32) (show (15 : Int32) = nI 15 from rfl) (by omega) (by decide)) dX5_keep_56 ?_
      subst hu
      exact hg_ri hx hb hr hlk rfl hP hD hS dX5_keep_57
    · intro k21 hk v21 hv w hw ih H locs ls hP hD hS hl
      have hw : w = b_X5_keep_21 x0 o_now_v k21 v21 := by rw [hw, hv]; rfl
      unfold b_X5_keep_21 at hw
      have hkb : k21 < 16 := Nat.lt_of_lt_of_le hk (by decide)
      have hP : va_P (dC, dI) vwCl [(o_h, .inr (5, [.int o_players, .int o_bars, .ref o_price, .ref o_breath, .ref o_kind, .ref o_looks, .ref o_noise, .ref o_repeat, .ref o_now, .ref o_readPlayer, .ref o_readBar, .int o_readPlayers, .int o_readBars, .ref o_text, .int o_length, .int o_at, .int o_faultAt, .int o_acts, .int o_next, .ref o_row, .int o_heard, .ref o_heardOf, .ref o_heardBars, .ref o_heardPlays, .int o_hushWho, .int o_hushSum, .long o_seed, .ref o_isKept, .ref o_kept])), (o_isKept, .inl (cZ, 2, .inl (upd o_isKept_v (Int32.toNatClampNeg x0) (vp_nar .boolean 1)))), (o_now, .inl (cI, 32, .inl o_now_v)), (o_kept, .inl (cI, 32, .inl v21))] H := hP
      have hD : va_D A [(o_h, .inr (5, [.int o_players, .int o_bars, .ref o_price, .ref o_breath, .ref o_kind, .ref o_looks, .ref o_noise, .ref o_repeat, .ref o_now, .ref o_readPlayer, .ref o_readBar, .int o_readPlayers, .int o_readBars, .ref o_text, .int o_length, .int o_at, .int o_faultAt, .int o_acts, .int o_next, .ref o_row, .int o_heard, .ref o_heardOf, .ref o_heardBars, .ref o_heardPlays, .int o_hushWho, .int o_hushSum, .long o_seed, .ref o_isKept, .ref o_kept])), (o_isKept, .inl (cZ, 2, .inl (upd o_isKept_v (Int32.toNatClampNeg x0) (vp_nar .boolean 1)))), (o_now, .inl (cI, 32, .inl o_now_v)), (o_kept, .inl (cI, 32, .inl v21))] := hD
      have hl : lv_has ls 3 [(0, .ref o_h), (1, .int x0), (2, .int (nI k21))] := hl
      refine lv_iload_n hx hb dX5_keep_21 rfl (lv_at hl 2 rfl) ?_
      refine lv_bipush (v := 16) hx hb dX5_keep_22 (by decide) ?_
      refine lv_icmp_ge (tgt := 50) hx hb dX5_keep_24 (by decide) (fun c_24 => absurd c_24 (hg_lo1 hk)) (fun c_24 => ?_)
      refine lv_aload_n hx hb dX5_keep_27 rfl (lv_at hl 0 rfl) ?_
      refine va_get (D := (dC, dI)) (ci := 5) (v := .ref o_kept) (C := RX5) (T := TX5) (N := 29) hx hb hts hinX5 hown hK hP 0 rfl rfl 28 (by decide) w2 (fun _ h9 => h9) rfl dX5_keep_28 ?_
      refine lv_bipush (v := 16) hx hb dX5_keep_31 (by decide) ?_
      refine lv_iload_n hx hb dX5_keep_33 rfl (lv_at hl 1 rfl) ?_
      refine lv_imul hx hb dX5_keep_34 ?_
      refine lv_iload_n hx hb dX5_keep_35 rfl (lv_at hl 2 rfl) ?_
      refine lv_iadd hx hb dX5_keep_36 ?_
      refine lv_aload_n hx hb dX5_keep_37 rfl (lv_at hl 0 rfl) ?_
      refine va_get (D := (dC, dI)) (ci := 5) (v := .ref o_now) (C := RX5) (T := TX5) (N := 29) hx hb hts hinX5 hown hK hP 0 rfl rfl 8 (by decide) w3 (fun _ h9 => h9) rfl dX5_keep_38 ?_
      refine lv_iload_n hx hb dX5_keep_41 rfl (lv_at hl 2 rfl) ?_
      refine va_iald hx hb hK hP 2 0 rfl rfl (n := 32) (f := o_now_v) (hg_in (n := k21) (N := 32) rfl (by omega) (by decide)) dX5_keep_42 ?_
      obtain ⟨y2, ey2, hw⟩ := lxb_o hw
      refine lv_topi (fun z ez => ?_)
      obtain rfl : y2 = z := ey2.trans ez.symm
      refine va_iast hx hb hK hP hD hS 3 0 rfl rfl (n := 32) (f := v21) (hg_in (n := ((16 * js) + k21)) (N := 32) (nx_add (nx_mul (show (16 : Int32) = nI 16 from rfl) ejs) rfl) (by omega) (by decide)) dX5_keep_43 (fun H locs hP hD hS => ?_)
      have hP : va_P (dC, dI) vwCl [(o_h, .inr (5, [.int o_players, .int o_bars, .ref o_price, .ref o_breath, .ref o_kind, .ref o_looks, .ref o_noise, .ref o_repeat, .ref o_now, .ref o_readPlayer, .ref o_readBar, .int o_readPlayers, .int o_readBars, .ref o_text, .int o_length, .int o_at, .int o_faultAt, .int o_acts, .int o_next, .ref o_row, .int o_heard, .ref o_heardOf, .ref o_heardBars, .ref o_heardPlays, .int o_hushWho, .int o_hushSum, .long o_seed, .ref o_isKept, .ref o_kept])), (o_isKept, .inl (cZ, 2, .inl (upd o_isKept_v (Int32.toNatClampNeg x0) (vp_nar .boolean 1)))), (o_now, .inl (cI, 32, .inl o_now_v)), (o_kept, .inl (cI, 32, .inl (upd v21 (Int32.toNatClampNeg ((16 * x0) + nI k21)) y2)))] H := hP
      have hD : va_D A [(o_h, .inr (5, [.int o_players, .int o_bars, .ref o_price, .ref o_breath, .ref o_kind, .ref o_looks, .ref o_noise, .ref o_repeat, .ref o_now, .ref o_readPlayer, .ref o_readBar, .int o_readPlayers, .int o_readBars, .ref o_text, .int o_length, .int o_at, .int o_faultAt, .int o_acts, .int o_next, .ref o_row, .int o_heard, .ref o_heardOf, .ref o_heardBars, .ref o_heardPlays, .int o_hushWho, .int o_hushSum, .long o_seed, .ref o_isKept, .ref o_kept])), (o_isKept, .inl (cZ, 2, .inl (upd o_isKept_v (Int32.toNatClampNeg x0) (vp_nar .boolean 1)))), (o_now, .inl (cI, 32, .inl o_now_v)), (o_kept, .inl (cI, 32, .inl (upd v21 (Int32.toNatClampNeg ((16 * x0) + nI k21)) y2)))] := hD
      refine lv_iinc (v := nI (k21 + 1)) (lv' := [(2, .int (nI (k21 + 1))), (0, .ref o_h), (1, .int x0)]) hx hb dX5_keep_44 hl (k := 2) rfl (nI_1 k21) (by decide) rfl (fun ls hl => ?_)
      refine lv_goto (tgt := 21) hx hb dX5_keep_47 (by decide) ?_
      subst hw
      exact ih _ _ _ hP hD hS (lv_sub hl [1, 2, 0] rfl)
  · have hu := hu.trans (if_pos c_7)
    refine lv_iconst (v := (-1)) hx hb dX5_keep_10 (by decide) ?_
    subst hu
    exact hg_ri hx hb hr hlk rfl hP hD hS dX5_keep_11

set_option maxHeartbeats 4000000 in
set_option maxRecDepth 100000 in
theorem c_X5_again (l : Launch) (dC : Nat → ClassId) (dI : Nat → Nat → Nat) (cI cZ cM : ClassId) (sz : Nat) (o_h : Nat) (x0 : Int32) (o_players : Int32) (o_bars : Int32) (o_price : Nat) (o_breath : Nat) (o_kind : Nat) (o_looks : Nat) (o_noise : Nat) (o_repeat : Nat) (o_now : Nat) (o_readPlayer : Nat) (o_readBar : Nat) (o_readPlayers : Int32) (o_readBars : Int32) (o_text : Nat) (o_length : Int32) (o_at : Int32) (o_faultAt : Int32) (o_acts : Int32) (o_next : Int32) (o_row : Nat) (o_heard : Int32) (o_heardOf : Nat) (o_heardBars : Nat) (o_heardPlays : Nat) (o_hushWho : Int32) (o_hushSum : Int32) (o_seed : Int64) (o_isKept : Nat) (o_kept : Nat) (o_isKept_v : Nat → Int32) (o_kept_v : Nat → Int32) (o_now_v : Nat → Int32) (np : Nat) (enp : o_players = nI np) (hnp : np ≤ 6) (nb : Nat) (enb : o_bars = nI nb) (hnb : nb ≤ 8) (u : Int32 × Int32 × (Nat → Int32)) (hu : u = f_X5_again x0 o_acts o_isKept_v o_kept_v o_now_v) : Met l yX5_again wsX5_again { frames := 1, cells := 0, slots := 0, locals := 25 } (hgPc [.ref o_h, .int x0] (dC, dI) cI cZ cM [(o_h, .inr (5, [.int o_players, .int o_bars, .ref o_price, .ref o_breath, .ref o_kind, .ref o_looks, .ref o_noise, .ref o_repeat, .ref o_now, .ref o_readPlayer, .ref o_readBar, .int o_readPlayers, .int o_readBars, .ref o_text, .int o_length, .int o_at, .int o_faultAt, .int o_acts, .int o_next, .ref o_row, .int o_heard, .ref o_heardOf, .ref o_heardBars, .ref o_heardPlays, .int o_hushWho, .int o_hushSum, .long o_seed, .ref o_isKept, .ref o_kept])), (o_isKept, .inl (cZ, 2, .inl o_isKept_v)), (o_kept, .inl (cI, 32, .inl o_kept_v)), (o_now, .inl (cI, 32, .inl o_now_v))] sz) (hgQi (dC, dI) u.1 [(o_h, .inr (5, [.int o_players, .int o_bars, .ref o_price, .ref o_breath, .ref o_kind, .ref o_looks, .ref o_noise, .ref o_repeat, .ref o_now, .ref o_readPlayer, .ref o_readBar, .int o_readPlayers, .int o_readBars, .ref o_text, .int o_length, .int o_at, .int o_faultAt, .int u.2.1, .int o_next, .ref o_row, .int o_heard, .ref o_heardOf, .ref o_heardBars, .ref o_heardPlays, .int o_hushWho, .int o_hushSum, .long o_seed, .ref o_isKept, .ref o_kept])), (o_isKept, .inl (cZ, 2, .inl o_isKept_v)), (o_kept, .inl (cI, 32, .inl o_kept_v)), (o_now, .inl (cI, 32, .inl u.2.2))] (va_A [(o_h, .inr (5, [.int o_players, .int o_bars, .ref o_price, .ref o_breath, .ref o_kind, .ref o_looks, .ref o_noise, .ref o_repeat, .ref o_now, .ref o_readPlayer, .ref o_readBar, .int o_readPlayers, .int o_readBars, .ref o_text, .int o_length, .int o_at, .int o_faultAt, .int o_acts, .int o_next, .ref o_row, .int o_heard, .ref o_heardOf, .ref o_heardBars, .ref o_heardPlays, .int o_hushWho, .int o_hushSum, .long o_seed, .ref o_isKept, .ref o_kept])), (o_isKept, .inl (cZ, 2, .inl o_isKept_v)), (o_kept, .inl (cI, 32, .inl o_kept_v)), (o_now, .inl (cI, 32, .inl o_now_v))] sz)) 0 0 (va_A [(o_h, .inr (5, [.int o_players, .int o_bars, .ref o_price, .ref o_breath, .ref o_kind, .ref o_looks, .ref o_noise, .ref o_repeat, .ref o_now, .ref o_readPlayer, .ref o_readBar, .int o_readPlayers, .int o_readBars, .ref o_text, .int o_length, .int o_at, .int o_faultAt, .int o_acts, .int o_next, .ref o_row, .int o_heard, .ref o_heardOf, .ref o_heardBars, .ref o_heardPlays, .int o_hushWho, .int o_hushSum, .long o_seed, .ref o_isKept, .ref o_kept])), (o_isKept, .inl (cZ, 2, .inl o_isKept_v)), (o_kept, .inl (cI, 32, .inl o_kept_v)), (o_now, .inl (cI, 32, .inl o_now_v))] sz) := by
  refine hg_ofW (cc := cX5_again) (maxL := 3) (ret := (some .int)) (own := RX5) (fun A => hgQi (dC, dI) u.1 [(o_h, .inr (5, [.int o_players, .int o_bars, .ref o_price, .ref o_breath, .ref o_kind, .ref o_looks, .ref o_noise, .ref o_repeat, .ref o_now, .ref o_readPlayer, .ref o_readBar, .int o_readPlayers, .int o_readBars, .ref o_text, .int o_length, .int o_at, .int o_faultAt, .int u.2.1, .int o_next, .ref o_row, .int o_heard, .ref o_heardOf, .ref o_heardBars, .ref o_heardPlays, .int o_hushWho, .int o_hushSum, .long o_seed, .ref o_isKept, .ref o_kept])), (o_isKept, .inl (cZ, 2, .inl o_isKept_v)), (o_kept, .inl (cI, 32, .inl o_kept_v)), (o_now, .inl (cI, 32, .inl u.2.2))] A) rfl (by decide) rfl (Nat.le_of_ble_eq_true rfl) ?_
  intro p e s m below meth c ls A hsz hx hb hr hml hown hts hlk hnm hK hN hA hP hD hS hl
  subst hsz
  have w1 := hts (.fieldLink RX5 52 "HatGoesRoundModel" "isKept" "[Z") (List.mem_of_getElem? (i := 1) rfl)
  have hinX5 : ∀ w ∈ u_ws RX5 TX5 29, w ∈ wsX5_again := fun _ h => List.mem_cons_of_mem _ (List.mem_append_right _ h)
  have w2 := hts (.fieldLink RX5 28 "HatGoesRoundModel" "now" "[I") (List.mem_of_getElem? (i := 2) rfl)
  have w3 := hts (.fieldLink RX5 56 "HatGoesRoundModel" "kept" "[I") (List.mem_of_getElem? (i := 3) rfl)
  have w4 := hts (.fieldLink RX5 99 "HatGoesRoundModel" "acts" "I") (List.mem_of_getElem? (i := 4) rfl)
  have hl : lv_has ls 3 [(0, .ref o_h), (1, .int x0)] := hl
  unfold f_X5_again at hu
  refine lv_iload_n hx hb dX5_again_0 rfl (lv_at hl 1 rfl) ?_
  refine lv_i2l (v := (Int32.toInt64 x0)) hx hb dX5_again_1 rfl ?_
  refine lv_lconst (v := 0) hx hb dX5_again_2 (by decide) ?_
  refine lv_lconst (v := 1) hx hb dX5_again_3 (by decide) ?_
  obtain ⟨r1, er1, hu⟩ := lxb_o hu
  refine hg_ci (va_runS (As := [.long (Int32.toInt64 x0), .long 0, .long 1]) (rest := []) ⟨hx, hb, hml, hown, hts⟩ (c_X5_in l dC dI cI cZ cM _ (Int32.toInt64 x0) 0 1 r1 er1) (va_cwS 3 hts gX5_again_X5_in rfl rfl rfl (by decide +kernel) ⟨Nat.le_of_ble_eq_true rfl, Nat.le_of_ble_eq_true rfl⟩) (hgPreS hP hD hK hN [] rfl rfl) rfl rfl hl.1 rfl (lv_room (Nat.le_of_ble_eq_true rfl)) dX5_again_4 ⟨Nat.zero_le _, Nat.zero_le _⟩) hP hD hS hA (wr := [(o_h, .inr (5, [.int o_players, .int o_bars, .ref o_price, .ref o_breath, .ref o_kind, .ref o_looks, .ref o_noise, .ref o_repeat, .ref o_now, .ref o_readPlayer, .ref o_readBar, .int o_readPlayers, .int o_readBars, .ref o_text, .int o_length, .int o_at, .int o_faultAt, .int o_acts, .int o_next, .ref o_row, .int o_heard, .ref o_heardOf, .ref o_heardBars, .ref o_heardPlays, .int o_hushWho, .int o_hushSum, .long o_seed, .ref o_isKept, .ref o_kept])), (o_isKept, .inl (cZ, 2, .inl o_isKept_v)), (o_kept, .inl (cI, 32, .inl o_kept_v)), (o_now, .inl (cI, 32, .inl o_now_v))]) (wf := [(o_h, .inr (5, [.int o_players, .int o_bars, .ref o_price, .ref o_breath, .ref o_kind, .ref o_looks, .ref o_noise, .ref o_repeat, .ref o_now, .ref o_readPlayer, .ref o_readBar, .int o_readPlayers, .int o_readBars, .ref o_text, .int o_length, .int o_at, .int o_faultAt, .int o_acts, .int o_next, .ref o_row, .int o_heard, .ref o_heardOf, .ref o_heardBars, .ref o_heardPlays, .int o_hushWho, .int o_hushSum, .long o_seed, .ref o_isKept, .ref o_kept])), (o_isKept, .inl (cZ, 2, .inl o_isKept_v)), (o_kept, .inl (cI, 32, .inl o_kept_v)), (o_now, .inl (cI, 32, .inl o_now_v))]) [] [0, 1, 2, 3] [0, 1, 2, 3] rfl rfl rfl (by decide) rfl rfl (fun H locs hP hD hS => ?_)
  refine lv_if_ne (tgt := 12) hx hb dX5_again_7 (by decide) (fun c_7 => ?_) (fun c_7 => ?_)
  · have hu := hu.trans (if_neg c_7)
    obtain ⟨js, hjs, ejs⟩ := mS er1 c_7
    refine lv_aload_n hx hb dX5_again_12 rfl (lv_at hl 0 rfl) ?_
    refine va_get (D := (dC, dI)) (ci := 5) (v := .ref o_isKept) (C := RX5) (T := TX5) (N := 29) hx hb hts hinX5 hown hK hP 0 rfl rfl 27 (by decide) w1 (fun _ h9 => h9) rfl dX5_again_13 ?_
    refine lv_iload_n hx hb dX5_again_16 rfl (lv_at hl 1 rfl) ?_
    refine va_zald hx hb hK hP 1 1 rfl rfl (n := 2) (f := o_isKept_v) (hg_in (n := js) (N := 2) ejs (by omega) (by decide)) dX5_again_17 ?_
    refine lv_if_ne (tgt := 24) hx hb dX5_again_18 (by decide) (fun c_18 => ?_) (fun c_18 => ?_)
    · have hu := hu.trans (if_neg c_18)
      refine lv_iconst (v := 0) hx hb dX5_again_24 (by decide) ?_
      refine lv_istore_n (lv' := [(2, .int 0), (0, .ref o_h), (1, .int x0)]) hx hb dX5_again_25 rfl hl (by decide) rfl (fun ls hl => ?_)
      obtain ⟨r3, er3, hu⟩ := lxb_o hu
      refine hg_loopF (T := (Nat → Int32)) (N := (itn 0 16)) (fun v26 => [(o_h, .inr (5, [.int o_players, .int o_bars, .ref o_price, .ref o_breath, .ref o_kind, .ref o_looks, .ref o_noise, .ref o_repeat, .ref o_now, .ref o_readPlayer, .ref o_readBar, .int o_readPlayers, .int o_readBars, .ref o_text, .int o_length, .int o_at, .int o_faultAt, .int o_acts, .int o_next, .ref o_row, .int o_heard, .ref o_heardOf, .ref o_heardBars, .ref o_heardPlays, .int o_hushWho, .int o_hushSum, .long o_seed, .ref o_isKept, .ref o_kept])), (o_isKept, .inl (cZ, 2, .inl o_isKept_v)), (o_kept, .inl (cI, 32, .inl o_kept_v)), (o_now, .inl (cI, 32, .inl v26))]) (fun k26 v26 => [(0, .ref o_h), (1, .int x0), (2, .int (nI k26))]) (fun k26 => l_X5_again_26 x0 o_kept_v o_now_v k26) ?_ ?_ hP hD hS (lv_sub hl [1, 2, 0] rfl)
      · intro v26 hv H locs ls hP hD hS hl
        obtain rfl : r3 = v26 := er3.trans hv.symm
        have hP : va_P (dC, dI) vwCl [(o_h, .inr (5, [.int o_players, .int o_bars, .ref o_price, .ref o_breath, .ref o_kind, .ref o_looks, .ref o_noise, .ref o_repeat, .ref o_now, .ref o_readPlayer, .ref o_readBar, .int o_readPlayers, .int o_readBars, .ref o_text, .int o_length, .int o_at, .int o_faultAt, .int o_acts, .int o_next, .ref o_row, .int o_heard, .ref o_heardOf, .ref o_heardBars, .ref o_heardPlays, .int o_hushWho, .int o_hushSum, .long o_seed, .ref o_isKept, .ref o_kept])), (o_isKept, .inl (cZ, 2, .inl o_isKept_v)), (o_kept, .inl (cI, 32, .inl o_kept_v)), (o_now, .inl (cI, 32, .inl r3))] H := hP
        have hD : va_D A [(o_h, .inr (5, [.int o_players, .int o_bars, .ref o_price, .ref o_breath, .ref o_kind, .ref o_looks, .ref o_noise, .ref o_repeat, .ref o_now, .ref o_readPlayer, .ref o_readBar, .int o_readPlayers, .int o_readBars, .ref o_text, .int o_length, .int o_at, .int o_faultAt, .int o_acts, .int o_next, .ref o_row, .int o_heard, .ref o_heardOf, .ref o_heardBars, .ref o_heardPlays, .int o_hushWho, .int o_hushSum, .long o_seed, .ref o_isKept, .ref o_kept])), (o_isKept, .inl (cZ, 2, .inl o_isKept_v)), (o_kept, .inl (cI, 32, .inl o_kept_v)), (o_now, .inl (cI, 32, .inl r3))] := hD
        have hl : lv_has ls 3 [(0, .ref o_h), (1, .int x0), (2, .int (nI (itn 0 16)))] := hl
        refine lv_iload_n hx hb dX5_again_26 rfl (lv_at hl 2 rfl) ?_
        refine lv_bipush (v := 16) hx hb dX5_again_27 (by decide) ?_
        refine lv_icmp_ge (tgt := 55) hx hb dX5_again_29 (by decide) (fun c_29 => ?_) (fun c_29 => absurd hg_lo0 c_29)
        refine lv_aload_n hx hb dX5_again_55 rfl (lv_at hl 0 rfl) ?_
        refine lv_iconst (v := 0) hx hb dX5_again_56 (by decide) ?_
        refine va_put (D := (dC, dI)) (ci := 5) (v := .int 0) (ty := .int) (C := RX5) (T := TX5) (N := 29) hx hb hts hinX5 tyX5 tyX5_ok nmX5 hown hK hP hD hS 0 rfl rfl 17 (by decide) w4 (fun _ h9 => h9) rfl (by decide +kernel) rfl rfl (Nat.le_of_ble_eq_true rfl) dX5_again_57 (fun H locs hP hD hS => ?_)
        have hP : va_P (dC, dI) vwCl [(o_h, .inr (5, [.int o_players, .int o_bars, .ref o_price, .ref o_breath, .ref o_kind, .ref o_looks, .ref o_noise, .ref o_repeat, .ref o_now, .ref o_readPlayer, .ref o_readBar, .int o_readPlayers, .int o_readBars, .ref o_text, .int o_length, .int o_at, .int o_faultAt, .int 0, .int o_next, .ref o_row, .int o_heard, .ref o_heardOf, .ref o_heardBars, .ref o_heardPlays, .int o_hushWho, .int o_hushSum, .long o_seed, .ref o_isKept, .ref o_kept])), (o_isKept, .inl (cZ, 2, .inl o_isKept_v)), (o_kept, .inl (cI, 32, .inl o_kept_v)), (o_now, .inl (cI, 32, .inl r3))] H := hP
        have hD : va_D A [(o_h, .inr (5, [.int o_players, .int o_bars, .ref o_price, .ref o_breath, .ref o_kind, .ref o_looks, .ref o_noise, .ref o_repeat, .ref o_now, .ref o_readPlayer, .ref o_readBar, .int o_readPlayers, .int o_readBars, .ref o_text, .int o_length, .int o_at, .int o_faultAt, .int 0, .int o_next, .ref o_row, .int o_heard, .ref o_heardOf, .ref o_heardBars, .ref o_heardPlays, .int o_hushWho, .int o_hushSum, .long o_seed, .ref o_isKept, .ref o_kept])), (o_isKept, .inl (cZ, 2, .inl o_isKept_v)), (o_kept, .inl (cI, 32, .inl o_kept_v)), (o_now, .inl (cI, 32, .inl r3))] := hD
        refine lv_aload_n hx hb dX5_again_60 rfl (lv_at hl 0 rfl) ?_
        refine va_get (D := (dC, dI)) (ci := 5) (v := .ref o_now) (C := RX5) (T := TX5) (N := 29) hx hb hts hinX5 hown hK hP 0 rfl rfl 8 (by decide) w2 (fun _ h9 => h9) rfl dX5_again_61 ?_
        refine lv_bipush (v := 15) hx hb dX5_again_64 (by decide) ?_
        refine va_iald hx hb hK hP 3 0 rfl rfl (n := 32) (f := r3) (hg_in (n := 15) (N := 32) (show (15 : Int32) = nI 15 from rfl) (by omega) (by decide)) dX5_again_66 ?_
        subst hu
        exact hg_ri hx hb hr hlk rfl hP hD hS dX5_again_67
      · intro k26 hk v26 hv w hw ih H locs ls hP hD hS hl
        have hw : w = b_X5_again_26 x0 o_kept_v k26 v26 := by rw [hw, hv]; rfl
        unfold b_X5_again_26 at hw
        have hkb : k26 < 16 := Nat.lt_of_lt_of_le hk (by decide)
        have hP : va_P (dC, dI) vwCl [(o_h, .inr (5, [.int o_players, .int o_bars, .ref o_price, .ref o_breath, .ref o_kind, .ref o_looks, .ref o_noise, .ref o_repeat, .ref o_now, .ref o_readPlayer, .ref o_readBar, .int o_readPlayers, .int o_readBars, .ref o_text, .int o_length, .int o_at, .int o_faultAt, .int o_acts, .int o_next, .ref o_row, .int o_heard, .ref o_heardOf, .ref o_heardBars, .ref o_heardPlays, .int o_hushWho, .int o_hushSum, .long o_seed, .ref o_isKept, .ref o_kept])), (o_isKept, .inl (cZ, 2, .inl o_isKept_v)), (o_kept, .inl (cI, 32, .inl o_kept_v)), (o_now, .inl (cI, 32, .inl v26))] H := hP
        have hD : va_D A [(o_h, .inr (5, [.int o_players, .int o_bars, .ref o_price, .ref o_breath, .ref o_kind, .ref o_looks, .ref o_noise, .ref o_repeat, .ref o_now, .ref o_readPlayer, .ref o_readBar, .int o_readPlayers, .int o_readBars, .ref o_text, .int o_length, .int o_at, .int o_faultAt, .int o_acts, .int o_next, .ref o_row, .int o_heard, .ref o_heardOf, .ref o_heardBars, .ref o_heardPlays, .int o_hushWho, .int o_hushSum, .long o_seed, .ref o_isKept, .ref o_kept])), (o_isKept, .inl (cZ, 2, .inl o_isKept_v)), (o_kept, .inl (cI, 32, .inl o_kept_v)), (o_now, .inl (cI, 32, .inl v26))] := hD
        have hl : lv_has ls 3 [(0, .ref o_h), (1, .int x0), (2, .int (nI k26))] := hl
        refine lv_iload_n hx hb dX5_again_26 rfl (lv_at hl 2 rfl) ?_
        refine lv_bipush (v := 16) hx hb dX5_again_27 (by decide) ?_
        refine lv_icmp_ge (tgt := 55) hx hb dX5_again_29 (by decide) (fun c_29 => absurd c_29 (hg_lo1 hk)) (fun c_29 => ?_)
        refine lv_aload_n hx hb dX5_again_32 rfl (lv_at hl 0 rfl) ?_
        refine va_get (D := (dC, dI)) (ci := 5) (v := .ref o_now) (C := RX5) (T := TX5) (N := 29) hx hb hts hinX5 hown hK hP 0 rfl rfl 8 (by decide) w2 (fun _ h9 => h9) rfl dX5_again_33 ?_
        refine lv_iload_n hx hb dX5_again_36 rfl (lv_at hl 2 rfl) ?_
        refine lv_aload_n hx hb dX5_again_37 rfl (lv_at hl 0 rfl) ?_
        refine va_get (D := (dC, dI)) (ci := 5) (v := .ref o_kept) (C := RX5) (T := TX5) (N := 29) hx hb hts hinX5 hown hK hP 0 rfl rfl 28 (by decide) w3 (fun _ h9 => h9) rfl dX5_again_38 ?_
        refine lv_bipush (v := 16) hx hb dX5_again_41 (by decide) ?_
        refine lv_iload_n hx hb dX5_again_43 rfl (lv_at hl 1 rfl) ?_
        refine lv_imul hx hb dX5_again_44 ?_
        refine lv_iload_n hx hb dX5_again_45 rfl (lv_at hl 2 rfl) ?_
        refine lv_iadd hx hb dX5_again_46 ?_
        refine va_iald hx hb hK hP 2 0 rfl rfl (n := 32) (f := o_kept_v) (hg_in (n := ((16 * js) + k26)) (N := 32) (nx_add (nx_mul (show (16 : Int32) = nI 16 from rfl) ejs) rfl) (by omega) (by decide)) dX5_again_47 ?_
        obtain ⟨y2, ey2, hw⟩ := lxb_o hw
        refine lv_topi (fun z ez => ?_)
        obtain rfl : y2 = z := ey2.trans ez.symm
        refine va_iast hx hb hK hP hD hS 3 0 rfl rfl (n := 32) (f := v26) (hg_in (n := k26) (N := 32) rfl (by omega) (by decide)) dX5_again_48 (fun H locs hP hD hS => ?_)
        have hP : va_P (dC, dI) vwCl [(o_h, .inr (5, [.int o_players, .int o_bars, .ref o_price, .ref o_breath, .ref o_kind, .ref o_looks, .ref o_noise, .ref o_repeat, .ref o_now, .ref o_readPlayer, .ref o_readBar, .int o_readPlayers, .int o_readBars, .ref o_text, .int o_length, .int o_at, .int o_faultAt, .int o_acts, .int o_next, .ref o_row, .int o_heard, .ref o_heardOf, .ref o_heardBars, .ref o_heardPlays, .int o_hushWho, .int o_hushSum, .long o_seed, .ref o_isKept, .ref o_kept])), (o_isKept, .inl (cZ, 2, .inl o_isKept_v)), (o_kept, .inl (cI, 32, .inl o_kept_v)), (o_now, .inl (cI, 32, .inl (upd v26 (Int32.toNatClampNeg (nI k26)) y2)))] H := hP
        have hD : va_D A [(o_h, .inr (5, [.int o_players, .int o_bars, .ref o_price, .ref o_breath, .ref o_kind, .ref o_looks, .ref o_noise, .ref o_repeat, .ref o_now, .ref o_readPlayer, .ref o_readBar, .int o_readPlayers, .int o_readBars, .ref o_text, .int o_length, .int o_at, .int o_faultAt, .int o_acts, .int o_next, .ref o_row, .int o_heard, .ref o_heardOf, .ref o_heardBars, .ref o_heardPlays, .int o_hushWho, .int o_hushSum, .long o_seed, .ref o_isKept, .ref o_kept])), (o_isKept, .inl (cZ, 2, .inl o_isKept_v)), (o_kept, .inl (cI, 32, .inl o_kept_v)), (o_now, .inl (cI, 32, .inl (upd v26 (Int32.toNatClampNeg (nI k26)) y2)))] := hD
        refine lv_iinc (v := nI (k26 + 1)) (lv' := [(2, .int (nI (k26 + 1))), (0, .ref o_h), (1, .int x0)]) hx hb dX5_again_49 hl (k := 2) rfl (nI_1 k26) (by decide) rfl (fun ls hl => ?_)
        refine lv_goto (tgt := 26) hx hb dX5_again_52 (by decide) ?_
        subst hw
        exact ih _ _ _ hP hD hS (lv_sub hl [1, 2, 0] rfl)
    · have hu := hu.trans (if_pos c_18)
      refine lv_bipush (v := (-3)) hx hb dX5_again_21 (by decide) ?_
      subst hu
      exact hg_ri hx hb hr hlk rfl hP hD hS dX5_again_23
  · have hu := hu.trans (if_pos c_7)
    refine lv_iconst (v := (-1)) hx hb dX5_again_10 (by decide) ?_
    subst hu
    exact hg_ri hx hb hr hlk rfl hP hD hS dX5_again_11

set_option maxHeartbeats 4000000 in
set_option maxRecDepth 100000 in
theorem c_X5_count (l : Launch) (dC : Nat → ClassId) (dI : Nat → Nat → Nat) (cI cZ cM : ClassId) (sz : Nat) (o_h : Nat) (x0 : Int32) (o_players : Int32) (o_bars : Int32) (o_price : Nat) (o_breath : Nat) (o_kind : Nat) (o_looks : Nat) (o_noise : Nat) (o_repeat : Nat) (o_now : Nat) (o_readPlayer : Nat) (o_readBar : Nat) (o_readPlayers : Int32) (o_readBars : Int32) (o_text : Nat) (o_length : Int32) (o_at : Int32) (o_faultAt : Int32) (o_acts : Int32) (o_next : Int32) (o_row : Nat) (o_heard : Int32) (o_heardOf : Nat) (o_heardBars : Nat) (o_heardPlays : Nat) (o_hushWho : Int32) (o_hushSum : Int32) (o_seed : Int64) (o_isKept : Nat) (o_kept : Nat) (o_now_v : Nat → Int32) (np : Nat) (enp : o_players = nI np) (hnp : np ≤ 6) (nb : Nat) (enb : o_bars = nI nb) (hnb : nb ≤ 8) (u : Int32) (hu : u = f_X5_count x0 o_players o_bars o_length o_acts o_heard o_now_v) : Met l yX5_count wsX5_count { frames := 4, cells := 0, slots := 0, locals := 87 } (hgPc [.ref o_h, .int x0] (dC, dI) cI cZ cM [(o_h, .inr (5, [.int o_players, .int o_bars, .ref o_price, .ref o_breath, .ref o_kind, .ref o_looks, .ref o_noise, .ref o_repeat, .ref o_now, .ref o_readPlayer, .ref o_readBar, .int o_readPlayers, .int o_readBars, .ref o_text, .int o_length, .int o_at, .int o_faultAt, .int o_acts, .int o_next, .ref o_row, .int o_heard, .ref o_heardOf, .ref o_heardBars, .ref o_heardPlays, .int o_hushWho, .int o_hushSum, .long o_seed, .ref o_isKept, .ref o_kept])), (o_now, .inl (cI, 32, .inl o_now_v))] sz) (hgQi (dC, dI) u [(o_h, .inr (5, [.int o_players, .int o_bars, .ref o_price, .ref o_breath, .ref o_kind, .ref o_looks, .ref o_noise, .ref o_repeat, .ref o_now, .ref o_readPlayer, .ref o_readBar, .int o_readPlayers, .int o_readBars, .ref o_text, .int o_length, .int o_at, .int o_faultAt, .int o_acts, .int o_next, .ref o_row, .int o_heard, .ref o_heardOf, .ref o_heardBars, .ref o_heardPlays, .int o_hushWho, .int o_hushSum, .long o_seed, .ref o_isKept, .ref o_kept])), (o_now, .inl (cI, 32, .inl o_now_v))] (va_A [(o_h, .inr (5, [.int o_players, .int o_bars, .ref o_price, .ref o_breath, .ref o_kind, .ref o_looks, .ref o_noise, .ref o_repeat, .ref o_now, .ref o_readPlayer, .ref o_readBar, .int o_readPlayers, .int o_readBars, .ref o_text, .int o_length, .int o_at, .int o_faultAt, .int o_acts, .int o_next, .ref o_row, .int o_heard, .ref o_heardOf, .ref o_heardBars, .ref o_heardPlays, .int o_hushWho, .int o_hushSum, .long o_seed, .ref o_isKept, .ref o_kept])), (o_now, .inl (cI, 32, .inl o_now_v))] sz)) 0 0 (va_A [(o_h, .inr (5, [.int o_players, .int o_bars, .ref o_price, .ref o_breath, .ref o_kind, .ref o_looks, .ref o_noise, .ref o_repeat, .ref o_now, .ref o_readPlayer, .ref o_readBar, .int o_readPlayers, .int o_readBars, .ref o_text, .int o_length, .int o_at, .int o_faultAt, .int o_acts, .int o_next, .ref o_row, .int o_heard, .ref o_heardOf, .ref o_heardBars, .ref o_heardPlays, .int o_hushWho, .int o_hushSum, .long o_seed, .ref o_isKept, .ref o_kept])), (o_now, .inl (cI, 32, .inl o_now_v))] sz) := by
  refine hg_ofW (cc := cX5_count) (maxL := 2) (ret := (some .int)) (own := RX5) (fun A => hgQi (dC, dI) u [(o_h, .inr (5, [.int o_players, .int o_bars, .ref o_price, .ref o_breath, .ref o_kind, .ref o_looks, .ref o_noise, .ref o_repeat, .ref o_now, .ref o_readPlayer, .ref o_readBar, .int o_readPlayers, .int o_readBars, .ref o_text, .int o_length, .int o_at, .int o_faultAt, .int o_acts, .int o_next, .ref o_row, .int o_heard, .ref o_heardOf, .ref o_heardBars, .ref o_heardPlays, .int o_hushWho, .int o_hushSum, .long o_seed, .ref o_isKept, .ref o_kept])), (o_now, .inl (cI, 32, .inl o_now_v))] A) rfl (by decide) rfl (Nat.le_of_ble_eq_true rfl) ?_
  intro p e s m below meth c ls A hsz hx hb hr hml hown hts hlk hnm hK hN hA hP hD hS hl
  subst hsz
  have w1 := hts (.fieldLink RX5 65 "HatGoesRoundModel" "length" "I") (List.mem_of_getElem? (i := 1) rfl)
  have hinX5 : ∀ w ∈ u_ws RX5 TX5 29, w ∈ wsX5_count := fun _ h => List.mem_cons_of_mem _ (List.mem_append_right _ h)
  have w2 := hts (.fieldLink RX5 93 "HatGoesRoundModel" "players" "I") (List.mem_of_getElem? (i := 2) rfl)
  have w3 := hts (.fieldLink RX5 96 "HatGoesRoundModel" "bars" "I") (List.mem_of_getElem? (i := 3) rfl)
  have w4 := hts (.fieldLink RX5 28 "HatGoesRoundModel" "now" "[I") (List.mem_of_getElem? (i := 4) rfl)
  have w5 := hts (.fieldLink RX5 99 "HatGoesRoundModel" "acts" "I") (List.mem_of_getElem? (i := 5) rfl)
  have w6 := hts (.fieldLink RX5 199 "HatGoesRoundModel" "heard" "I") (List.mem_of_getElem? (i := 6) rfl)
  have hl : lv_has ls 2 [(0, .ref o_h), (1, .int x0)] := hl
  unfold f_X5_count at hu
  refine lv_iload_n hx hb dX5_count_0 rfl (lv_at hl 1 rfl) ?_
  by_cases c_1_0 : x0 = 0
  · have hu := hu.trans (if_pos c_1_0)
    refine lv_tableIn (off := 63) (tgt := 64) hx hb dX5_count_1 (by rw [c_1_0]; decide) (by rw [c_1_0]; decide) (by rw [c_1_0]; rfl) (by decide) ?_
    refine lv_aload_n hx hb dX5_count_64 rfl (lv_at hl 0 rfl) ?_
    refine va_get (D := (dC, dI)) (ci := 5) (v := .int o_length) (C := RX5) (T := TX5) (N := 29) hx hb hts hinX5 hown hK hP 0 rfl rfl 14 (by decide) w1 (fun _ h9 => h9) rfl dX5_count_65 ?_
    subst hu
    exact hg_ri hx hb hr hlk rfl hP hD hS dX5_count_68
  · have hu := hu.trans (if_neg c_1_0)
    by_cases c_1_1 : x0 = 1
    · have hu := hu.trans (if_pos c_1_1)
      refine lv_tableIn (off := 68) (tgt := 69) hx hb dX5_count_1 (by rw [c_1_1]; decide) (by rw [c_1_1]; decide) (by rw [c_1_1]; rfl) (by decide) ?_
      refine lv_aload_n hx hb dX5_count_69 rfl (lv_at hl 0 rfl) ?_
      refine va_get (D := (dC, dI)) (ci := 5) (v := .int o_players) (C := RX5) (T := TX5) (N := 29) hx hb hts hinX5 hown hK hP 0 rfl rfl 0 (by decide) w2 (fun _ h9 => h9) rfl dX5_count_70 ?_
      subst hu
      exact hg_ri hx hb hr hlk rfl hP hD hS dX5_count_73
    · have hu := hu.trans (if_neg c_1_1)
      by_cases c_1_2 : x0 = 2
      · have hu := hu.trans (if_pos c_1_2)
        refine lv_tableIn (off := 73) (tgt := 74) hx hb dX5_count_1 (by rw [c_1_2]; decide) (by rw [c_1_2]; decide) (by rw [c_1_2]; rfl) (by decide) ?_
        refine lv_aload_n hx hb dX5_count_74 rfl (lv_at hl 0 rfl) ?_
        refine va_get (D := (dC, dI)) (ci := 5) (v := .int o_bars) (C := RX5) (T := TX5) (N := 29) hx hb hts hinX5 hown hK hP 0 rfl rfl 1 (by decide) w3 (fun _ h9 => h9) rfl dX5_count_75 ?_
        subst hu
        exact hg_ri hx hb hr hlk rfl hP hD hS dX5_count_78
      · have hu := hu.trans (if_neg c_1_2)
        by_cases c_1_3 : x0 = 3
        · have hu := hu.trans (if_pos c_1_3)
          refine lv_tableIn (off := 78) (tgt := 79) hx hb dX5_count_1 (by rw [c_1_3]; decide) (by rw [c_1_3]; decide) (by rw [c_1_3]; rfl) (by decide) ?_
          refine lv_aload_n hx hb dX5_count_79 rfl (lv_at hl 0 rfl) ?_
          refine va_get (D := (dC, dI)) (ci := 5) (v := .ref o_now) (C := RX5) (T := TX5) (N := 29) hx hb hts hinX5 hown hK hP 0 rfl rfl 8 (by decide) w4 (fun _ h9 => h9) rfl dX5_count_80 ?_
          refine lv_bipush (v := 15) hx hb dX5_count_83 (by decide) ?_
          refine va_iald hx hb hK hP 1 0 rfl rfl (n := 32) (f := o_now_v) (hg_in (n := 15) (N := 32) (show (15 : Int32) = nI 15 from rfl) (by omega) (by decide)) dX5_count_85 ?_
          subst hu
          exact hg_ri hx hb hr hlk rfl hP hD hS dX5_count_86
        · have hu := hu.trans (if_neg c_1_3)
          by_cases c_1_4 : x0 = 4
          · have hu := hu.trans (if_pos c_1_4)
            refine lv_tableIn (off := 86) (tgt := 87) hx hb dX5_count_1 (by rw [c_1_4]; decide) (by rw [c_1_4]; decide) (by rw [c_1_4]; rfl) (by decide) ?_
            refine lv_aload_n hx hb dX5_count_87 rfl (lv_at hl 0 rfl) ?_
            refine va_get (D := (dC, dI)) (ci := 5) (v := .ref o_now) (C := RX5) (T := TX5) (N := 29) hx hb hts hinX5 hown hK hP 0 rfl rfl 8 (by decide) w4 (fun _ h9 => h9) rfl dX5_count_88 ?_
            refine lv_bipush (v := 14) hx hb dX5_count_91 (by decide) ?_
            refine va_iald hx hb hK hP 1 0 rfl rfl (n := 32) (f := o_now_v) (hg_in (n := 14) (N := 32) (show (14 : Int32) = nI 14 from rfl) (by omega) (by decide)) dX5_count_93 ?_
            subst hu
            exact hg_ri hx hb hr hlk rfl hP hD hS dX5_count_94
          · have hu := hu.trans (if_neg c_1_4)
            by_cases c_1_5 : x0 = 5
            · have hu := hu.trans (if_pos c_1_5)
              refine lv_tableIn (off := 94) (tgt := 95) hx hb dX5_count_1 (by rw [c_1_5]; decide) (by rw [c_1_5]; decide) (by rw [c_1_5]; rfl) (by decide) ?_
              refine lv_aload_n hx hb dX5_count_95 rfl (lv_at hl 0 rfl) ?_
              refine lv_iconst (v := 0) hx hb dX5_count_96 (by decide) ?_
              refine lv_iload_n hx hb dX5_count_97 rfl (lv_at hl 1 rfl) ?_
              refine lv_iconst (v := 5) hx hb dX5_count_98 (by decide) ?_
              refine lv_isub hx hb dX5_count_99 ?_
              obtain ⟨r1, er1, hu⟩ := lxb_o hu
              refine hg_ci (va_runV (As := [.int 0, .int (x0 - 5)]) (rest := []) ⟨hx, hb, hml, hown, hts⟩ (c_X5_whoIs l dC dI cI cZ cM _ o_h 0 (x0 - 5) o_players o_bars o_price o_breath o_kind o_looks o_noise o_repeat o_now o_readPlayer o_readBar o_readPlayers o_readBars o_text o_length o_at o_faultAt o_acts o_next o_row o_heard o_heardOf o_heardBars o_heardPlays o_hushWho o_hushSum o_seed o_isKept o_kept o_now_v np enp (by omega) nb enb (by omega) 0 (show (0 : Int32) = nI 0 from rfl) (by omega) r1 er1) (cwV 2 hts gX5_count_X5_whoIs rfl rfl rfl (by decide +kernel) ⟨Nat.le_of_ble_eq_true rfl, Nat.le_of_ble_eq_true rfl⟩) (hgPreV (C := RX5) (T := TX5) (N := 29) (ci := 5) (q0 := 0) hP hD hK hN [0, 1] rfl rfl rfl rfl) rfl rfl hl.1 rfl (lv_room (Nat.le_of_ble_eq_true rfl)) dX5_count_100 ⟨Nat.zero_le _, Nat.zero_le _⟩) hP hD hS hA (wr := []) (wf := [(o_h, .inr (5, [.int o_players, .int o_bars, .ref o_price, .ref o_breath, .ref o_kind, .ref o_looks, .ref o_noise, .ref o_repeat, .ref o_now, .ref o_readPlayer, .ref o_readBar, .int o_readPlayers, .int o_readBars, .ref o_text, .int o_length, .int o_at, .int o_faultAt, .int o_acts, .int o_next, .ref o_row, .int o_heard, .ref o_heardOf, .ref o_heardBars, .ref o_heardPlays, .int o_hushWho, .int o_hushSum, .long o_seed, .ref o_isKept, .ref o_kept])), (o_now, .inl (cI, 32, .inl o_now_v))]) [0, 1] [] [0, 1] rfl rfl rfl (by decide) rfl rfl (fun H locs hP hD hS => ?_)
              subst hu
              exact hg_ri hx hb hr hlk rfl hP hD hS dX5_count_103
            · have hu := hu.trans (if_neg c_1_5)
              by_cases c_1_6 : x0 = 6
              · have hu := hu.trans (if_pos c_1_6)
                refine lv_tableIn (off := 94) (tgt := 95) hx hb dX5_count_1 (by rw [c_1_6]; decide) (by rw [c_1_6]; decide) (by rw [c_1_6]; rfl) (by decide) ?_
                refine lv_aload_n hx hb dX5_count_95 rfl (lv_at hl 0 rfl) ?_
                refine lv_iconst (v := 0) hx hb dX5_count_96 (by decide) ?_
                refine lv_iload_n hx hb dX5_count_97 rfl (lv_at hl 1 rfl) ?_
                refine lv_iconst (v := 5) hx hb dX5_count_98 (by decide) ?_
                refine lv_isub hx hb dX5_count_99 ?_
                obtain ⟨r2, er2, hu⟩ := lxb_o hu
                refine hg_ci (va_runV (As := [.int 0, .int (x0 - 5)]) (rest := []) ⟨hx, hb, hml, hown, hts⟩ (c_X5_whoIs l dC dI cI cZ cM _ o_h 0 (x0 - 5) o_players o_bars o_price o_breath o_kind o_looks o_noise o_repeat o_now o_readPlayer o_readBar o_readPlayers o_readBars o_text o_length o_at o_faultAt o_acts o_next o_row o_heard o_heardOf o_heardBars o_heardPlays o_hushWho o_hushSum o_seed o_isKept o_kept o_now_v np enp (by omega) nb enb (by omega) 0 (show (0 : Int32) = nI 0 from rfl) (by omega) r2 er2) (cwV 2 hts gX5_count_X5_whoIs rfl rfl rfl (by decide +kernel) ⟨Nat.le_of_ble_eq_true rfl, Nat.le_of_ble_eq_true rfl⟩) (hgPreV (C := RX5) (T := TX5) (N := 29) (ci := 5) (q0 := 0) hP hD hK hN [0, 1] rfl rfl rfl rfl) rfl rfl hl.1 rfl (lv_room (Nat.le_of_ble_eq_true rfl)) dX5_count_100 ⟨Nat.zero_le _, Nat.zero_le _⟩) hP hD hS hA (wr := []) (wf := [(o_h, .inr (5, [.int o_players, .int o_bars, .ref o_price, .ref o_breath, .ref o_kind, .ref o_looks, .ref o_noise, .ref o_repeat, .ref o_now, .ref o_readPlayer, .ref o_readBar, .int o_readPlayers, .int o_readBars, .ref o_text, .int o_length, .int o_at, .int o_faultAt, .int o_acts, .int o_next, .ref o_row, .int o_heard, .ref o_heardOf, .ref o_heardBars, .ref o_heardPlays, .int o_hushWho, .int o_hushSum, .long o_seed, .ref o_isKept, .ref o_kept])), (o_now, .inl (cI, 32, .inl o_now_v))]) [0, 1] [] [0, 1] rfl rfl rfl (by decide) rfl rfl (fun H locs hP hD hS => ?_)
                subst hu
                exact hg_ri hx hb hr hlk rfl hP hD hS dX5_count_103
              · have hu := hu.trans (if_neg c_1_6)
                by_cases c_1_7 : x0 = 7
                · have hu := hu.trans (if_pos c_1_7)
                  refine lv_tableIn (off := 94) (tgt := 95) hx hb dX5_count_1 (by rw [c_1_7]; decide) (by rw [c_1_7]; decide) (by rw [c_1_7]; rfl) (by decide) ?_
                  refine lv_aload_n hx hb dX5_count_95 rfl (lv_at hl 0 rfl) ?_
                  refine lv_iconst (v := 0) hx hb dX5_count_96 (by decide) ?_
                  refine lv_iload_n hx hb dX5_count_97 rfl (lv_at hl 1 rfl) ?_
                  refine lv_iconst (v := 5) hx hb dX5_count_98 (by decide) ?_
                  refine lv_isub hx hb dX5_count_99 ?_
                  obtain ⟨r3, er3, hu⟩ := lxb_o hu
                  refine hg_ci (va_runV (As := [.int 0, .int (x0 - 5)]) (rest := []) ⟨hx, hb, hml, hown, hts⟩ (c_X5_whoIs l dC dI cI cZ cM _ o_h 0 (x0 - 5) o_players o_bars o_price o_breath o_kind o_looks o_noise o_repeat o_now o_readPlayer o_readBar o_readPlayers o_readBars o_text o_length o_at o_faultAt o_acts o_next o_row o_heard o_heardOf o_heardBars o_heardPlays o_hushWho o_hushSum o_seed o_isKept o_kept o_now_v np enp (by omega) nb enb (by omega) 0 (show (0 : Int32) = nI 0 from rfl) (by omega) r3 er3) (cwV 2 hts gX5_count_X5_whoIs rfl rfl rfl (by decide +kernel) ⟨Nat.le_of_ble_eq_true rfl, Nat.le_of_ble_eq_true rfl⟩) (hgPreV (C := RX5) (T := TX5) (N := 29) (ci := 5) (q0 := 0) hP hD hK hN [0, 1] rfl rfl rfl rfl) rfl rfl hl.1 rfl (lv_room (Nat.le_of_ble_eq_true rfl)) dX5_count_100 ⟨Nat.zero_le _, Nat.zero_le _⟩) hP hD hS hA (wr := []) (wf := [(o_h, .inr (5, [.int o_players, .int o_bars, .ref o_price, .ref o_breath, .ref o_kind, .ref o_looks, .ref o_noise, .ref o_repeat, .ref o_now, .ref o_readPlayer, .ref o_readBar, .int o_readPlayers, .int o_readBars, .ref o_text, .int o_length, .int o_at, .int o_faultAt, .int o_acts, .int o_next, .ref o_row, .int o_heard, .ref o_heardOf, .ref o_heardBars, .ref o_heardPlays, .int o_hushWho, .int o_hushSum, .long o_seed, .ref o_isKept, .ref o_kept])), (o_now, .inl (cI, 32, .inl o_now_v))]) [0, 1] [] [0, 1] rfl rfl rfl (by decide) rfl rfl (fun H locs hP hD hS => ?_)
                  subst hu
                  exact hg_ri hx hb hr hlk rfl hP hD hS dX5_count_103
                · have hu := hu.trans (if_neg c_1_7)
                  by_cases c_1_8 : x0 = 8
                  · have hu := hu.trans (if_pos c_1_8)
                    refine lv_tableIn (off := 103) (tgt := 104) hx hb dX5_count_1 (by rw [c_1_8]; decide) (by rw [c_1_8]; decide) (by rw [c_1_8]; rfl) (by decide) ?_
                    refine lv_aload_n hx hb dX5_count_104 rfl (lv_at hl 0 rfl) ?_
                    refine lv_iconst (v := 0) hx hb dX5_count_105 (by decide) ?_
                    obtain ⟨r4, er4, hu⟩ := lxb_o hu
                    refine hg_ci (va_runV (As := [.int 0]) (rest := []) ⟨hx, hb, hml, hown, hts⟩ (c_X5_nextBar l dC dI cI cZ cM _ o_h 0 o_players o_bars o_price o_breath o_kind o_looks o_noise o_repeat o_now o_readPlayer o_readBar o_readPlayers o_readBars o_text o_length o_at o_faultAt o_acts o_next o_row o_heard o_heardOf o_heardBars o_heardPlays o_hushWho o_hushSum o_seed o_isKept o_kept o_now_v np enp (by omega) nb enb (by omega) 0 (show (0 : Int32) = nI 0 from rfl) (by omega) r4 er4) (cwV 1 hts gX5_count_X5_nextBar rfl rfl rfl (by decide +kernel) ⟨Nat.le_of_ble_eq_true rfl, Nat.le_of_ble_eq_true rfl⟩) (hgPreV (C := RX5) (T := TX5) (N := 29) (ci := 5) (q0 := 0) hP hD hK hN [0, 1] rfl rfl rfl rfl) rfl rfl hl.1 rfl (lv_room (Nat.le_of_ble_eq_true rfl)) dX5_count_106 ⟨Nat.zero_le _, Nat.zero_le _⟩) hP hD hS hA (wr := []) (wf := [(o_h, .inr (5, [.int o_players, .int o_bars, .ref o_price, .ref o_breath, .ref o_kind, .ref o_looks, .ref o_noise, .ref o_repeat, .ref o_now, .ref o_readPlayer, .ref o_readBar, .int o_readPlayers, .int o_readBars, .ref o_text, .int o_length, .int o_at, .int o_faultAt, .int o_acts, .int o_next, .ref o_row, .int o_heard, .ref o_heardOf, .ref o_heardBars, .ref o_heardPlays, .int o_hushWho, .int o_hushSum, .long o_seed, .ref o_isKept, .ref o_kept])), (o_now, .inl (cI, 32, .inl o_now_v))]) [0, 1] [] [0, 1] rfl rfl rfl (by decide) rfl rfl (fun H locs hP hD hS => ?_)
                    subst hu
                    exact hg_ri hx hb hr hlk rfl hP hD hS dX5_count_109
                  · have hu := hu.trans (if_neg c_1_8)
                    by_cases c_1_9 : x0 = 9
                    · have hu := hu.trans (if_pos c_1_9)
                      refine lv_tableIn (off := 109) (tgt := 110) hx hb dX5_count_1 (by rw [c_1_9]; decide) (by rw [c_1_9]; decide) (by rw [c_1_9]; rfl) (by decide) ?_
                      refine lv_aload_n hx hb dX5_count_110 rfl (lv_at hl 0 rfl) ?_
                      refine va_get (D := (dC, dI)) (ci := 5) (v := .ref o_now) (C := RX5) (T := TX5) (N := 29) hx hb hts hinX5 hown hK hP 0 rfl rfl 8 (by decide) w4 (fun _ h9 => h9) rfl dX5_count_111 ?_
                      refine lv_bipush (v := 13) hx hb dX5_count_114 (by decide) ?_
                      refine va_iald hx hb hK hP 1 0 rfl rfl (n := 32) (f := o_now_v) (hg_in (n := 13) (N := 32) (show (13 : Int32) = nI 13 from rfl) (by omega) (by decide)) dX5_count_116 ?_
                      subst hu
                      exact hg_ri hx hb hr hlk rfl hP hD hS dX5_count_117
                    · have hu := hu.trans (if_neg c_1_9)
                      by_cases c_1_10 : x0 = 10
                      · have hu := hu.trans (if_pos c_1_10)
                        refine lv_tableIn (off := 117) (tgt := 118) hx hb dX5_count_1 (by rw [c_1_10]; decide) (by rw [c_1_10]; decide) (by rw [c_1_10]; rfl) (by decide) ?_
                        refine lv_aload_n hx hb dX5_count_118 rfl (lv_at hl 0 rfl) ?_
                        refine va_get (D := (dC, dI)) (ci := 5) (v := .int o_acts) (C := RX5) (T := TX5) (N := 29) hx hb hts hinX5 hown hK hP 0 rfl rfl 17 (by decide) w5 (fun _ h9 => h9) rfl dX5_count_119 ?_
                        subst hu
                        exact hg_ri hx hb hr hlk rfl hP hD hS dX5_count_122
                      · have hu := hu.trans (if_neg c_1_10)
                        by_cases c_1_11 : x0 = 11
                        · have hu := hu.trans (if_pos c_1_11)
                          refine lv_tableIn (off := 122) (tgt := 123) hx hb dX5_count_1 (by rw [c_1_11]; decide) (by rw [c_1_11]; decide) (by rw [c_1_11]; rfl) (by decide) ?_
                          refine lv_aload_n hx hb dX5_count_123 rfl (lv_at hl 0 rfl) ?_
                          refine va_get (D := (dC, dI)) (ci := 5) (v := .int o_heard) (C := RX5) (T := TX5) (N := 29) hx hb hts hinX5 hown hK hP 0 rfl rfl 20 (by decide) w6 (fun _ h9 => h9) rfl dX5_count_124 ?_
                          subst hu
                          exact hg_ri hx hb hr hlk rfl hP hD hS dX5_count_127
                        · have hu := hu.trans (if_neg c_1_11)
                          refine lv_tableOut (tgt := 128) hx hb dX5_count_1 (hg_tout (lo := 0) (hi := 11) (fun j h1 h2 e => by rcases (show j = 0 ∨ j = 1 ∨ j = 2 ∨ j = 3 ∨ j = 4 ∨ j = 5 ∨ j = 6 ∨ j = 7 ∨ j = 8 ∨ j = 9 ∨ j = 10 ∨ j = 11 by omega) with rfl | rfl | rfl | rfl | rfl | rfl | rfl | rfl | rfl | rfl | rfl | rfl <;> first | exact c_1_0 e | exact c_1_1 e | exact c_1_2 e | exact c_1_3 e | exact c_1_4 e | exact c_1_5 e | exact c_1_6 e | exact c_1_7 e | exact c_1_8 e | exact c_1_9 e | exact c_1_10 e | exact c_1_11 e)) (by decide) ?_
                          refine lv_bipush (v := (-2)) hx hb dX5_count_128 (by decide) ?_
                          subst hu
                          exact hg_ri hx hb hr hlk rfl hP hD hS dX5_count_130

set_option maxHeartbeats 4000000 in
set_option maxRecDepth 100000 in
theorem c_X5_concert (l : Launch) (dC : Nat → ClassId) (dI : Nat → Nat → Nat) (cI cZ cM : ClassId) (sz : Nat) (o_h : Nat) (o_players : Int32) (o_bars : Int32) (o_price : Nat) (o_breath : Nat) (o_kind : Nat) (o_looks : Nat) (o_noise : Nat) (o_repeat : Nat) (o_now : Nat) (o_readPlayer : Nat) (o_readBar : Nat) (o_readPlayers : Int32) (o_readBars : Int32) (o_text : Nat) (o_length : Int32) (o_at : Int32) (o_faultAt : Int32) (o_acts : Int32) (o_next : Int32) (o_row : Nat) (o_heard : Int32) (o_heardOf : Nat) (o_heardBars : Nat) (o_heardPlays : Nat) (o_hushWho : Int32) (o_hushSum : Int32) (o_seed : Int64) (o_isKept : Nat) (o_kept : Nat) (o_text_v : Nat → Int32) (o_readBar_v : Nat → Int32) (o_readPlayer_v : Nat → Int32) (o_now_v : Nat → Int32) (o_price_v : Nat → Int32) (o_breath_v : Nat → Int32) (o_kind_v : Nat → Int32) (o_looks_v : Nat → Int32) (o_noise_v : Nat → Int32) (o_repeat_v : Nat → Int32) (o_isKept_v : Nat → Int32) (np : Nat) (enp : o_players = nI np) (hnp : np ≤ 6) (nb : Nat) (enb : o_bars = nI nb) (hnb : nb ≤ 8) (nl : Nat) (enl : o_length = nI nl) (hnl : nl ≤ 56) (u : Int32 × Int32 × Int32 × Int32 × Int32 × Int32 × Int32 × Int32 × (Nat → Int32) × (Nat → Int32) × (Nat → Int32) × (Nat → Int32) × (Nat → Int32) × (Nat → Int32) × (Nat → Int32) × (Nat → Int32) × (Nat → Int32) × (Nat → Int32)) (hu : u = f_X5_concert o_players o_bars o_length o_acts o_text_v o_readBar_v o_readPlayer_v o_now_v o_price_v o_breath_v o_kind_v o_looks_v o_noise_v o_repeat_v o_isKept_v) : Met l yX5_concert wsX5_concert { frames := 4, cells := 0, slots := 0, locals := 91 } (hgPc [.ref o_h] (dC, dI) cI cZ cM [(o_h, .inr (5, [.int o_players, .int o_bars, .ref o_price, .ref o_breath, .ref o_kind, .ref o_looks, .ref o_noise, .ref o_repeat, .ref o_now, .ref o_readPlayer, .ref o_readBar, .int o_readPlayers, .int o_readBars, .ref o_text, .int o_length, .int o_at, .int o_faultAt, .int o_acts, .int o_next, .ref o_row, .int o_heard, .ref o_heardOf, .ref o_heardBars, .ref o_heardPlays, .int o_hushWho, .int o_hushSum, .long o_seed, .ref o_isKept, .ref o_kept])), (o_text, .inl (cI, 56, .inl o_text_v)), (o_readBar, .inl (cI, 16, .inl o_readBar_v)), (o_readPlayer, .inl (cI, 24, .inl o_readPlayer_v)), (o_now, .inl (cI, 32, .inl o_now_v)), (o_price, .inl (cI, 6, .inl o_price_v)), (o_breath, .inl (cI, 6, .inl o_breath_v)), (o_kind, .inl (cI, 6, .inl o_kind_v)), (o_looks, .inl (cI, 6, .inl o_looks_v)), (o_noise, .inl (cI, 8, .inl o_noise_v)), (o_repeat, .inl (cI, 8, .inl o_repeat_v)), (o_isKept, .inl (cZ, 2, .inl o_isKept_v))] sz) (hgQi (dC, dI) u.1 [(o_h, .inr (5, [.int u.2.1, .int u.2.2.1, .ref o_price, .ref o_breath, .ref o_kind, .ref o_looks, .ref o_noise, .ref o_repeat, .ref o_now, .ref o_readPlayer, .ref o_readBar, .int u.2.2.2.1, .int u.2.2.2.2.1, .ref o_text, .int o_length, .int u.2.2.2.2.2.1, .int u.2.2.2.2.2.2.1, .int u.2.2.2.2.2.2.2.1, .int o_next, .ref o_row, .int o_heard, .ref o_heardOf, .ref o_heardBars, .ref o_heardPlays, .int o_hushWho, .int o_hushSum, .long o_seed, .ref o_isKept, .ref o_kept])), (o_text, .inl (cI, 56, .inl o_text_v)), (o_readBar, .inl (cI, 16, .inl u.2.2.2.2.2.2.2.2.1)), (o_readPlayer, .inl (cI, 24, .inl u.2.2.2.2.2.2.2.2.2.1)), (o_now, .inl (cI, 32, .inl u.2.2.2.2.2.2.2.2.2.2.1)), (o_price, .inl (cI, 6, .inl u.2.2.2.2.2.2.2.2.2.2.2.1)), (o_breath, .inl (cI, 6, .inl u.2.2.2.2.2.2.2.2.2.2.2.2.1)), (o_kind, .inl (cI, 6, .inl u.2.2.2.2.2.2.2.2.2.2.2.2.2.1)), (o_looks, .inl (cI, 6, .inl u.2.2.2.2.2.2.2.2.2.2.2.2.2.2.1)), (o_noise, .inl (cI, 8, .inl u.2.2.2.2.2.2.2.2.2.2.2.2.2.2.2.1)), (o_repeat, .inl (cI, 8, .inl u.2.2.2.2.2.2.2.2.2.2.2.2.2.2.2.2.1)), (o_isKept, .inl (cZ, 2, .inl u.2.2.2.2.2.2.2.2.2.2.2.2.2.2.2.2.2))] (va_A [(o_h, .inr (5, [.int o_players, .int o_bars, .ref o_price, .ref o_breath, .ref o_kind, .ref o_looks, .ref o_noise, .ref o_repeat, .ref o_now, .ref o_readPlayer, .ref o_readBar, .int o_readPlayers, .int o_readBars, .ref o_text, .int o_length, .int o_at, .int o_faultAt, .int o_acts, .int o_next, .ref o_row, .int o_heard, .ref o_heardOf, .ref o_heardBars, .ref o_heardPlays, .int o_hushWho, .int o_hushSum, .long o_seed, .ref o_isKept, .ref o_kept])), (o_text, .inl (cI, 56, .inl o_text_v)), (o_readBar, .inl (cI, 16, .inl o_readBar_v)), (o_readPlayer, .inl (cI, 24, .inl o_readPlayer_v)), (o_now, .inl (cI, 32, .inl o_now_v)), (o_price, .inl (cI, 6, .inl o_price_v)), (o_breath, .inl (cI, 6, .inl o_breath_v)), (o_kind, .inl (cI, 6, .inl o_kind_v)), (o_looks, .inl (cI, 6, .inl o_looks_v)), (o_noise, .inl (cI, 8, .inl o_noise_v)), (o_repeat, .inl (cI, 8, .inl o_repeat_v)), (o_isKept, .inl (cZ, 2, .inl o_isKept_v))] sz)) 0 0 (va_A [(o_h, .inr (5, [.int o_players, .int o_bars, .ref o_price, .ref o_breath, .ref o_kind, .ref o_looks, .ref o_noise, .ref o_repeat, .ref o_now, .ref o_readPlayer, .ref o_readBar, .int o_readPlayers, .int o_readBars, .ref o_text, .int o_length, .int o_at, .int o_faultAt, .int o_acts, .int o_next, .ref o_row, .int o_heard, .ref o_heardOf, .ref o_heardBars, .ref o_heardPlays, .int o_hushWho, .int o_hushSum, .long o_seed, .ref o_isKept, .ref o_kept])), (o_text, .inl (cI, 56, .inl o_text_v)), (o_readBar, .inl (cI, 16, .inl o_readBar_v)), (o_readPlayer, .inl (cI, 24, .inl o_readPlayer_v)), (o_now, .inl (cI, 32, .inl o_now_v)), (o_price, .inl (cI, 6, .inl o_price_v)), (o_breath, .inl (cI, 6, .inl o_breath_v)), (o_kind, .inl (cI, 6, .inl o_kind_v)), (o_looks, .inl (cI, 6, .inl o_looks_v)), (o_noise, .inl (cI, 8, .inl o_noise_v)), (o_repeat, .inl (cI, 8, .inl o_repeat_v)), (o_isKept, .inl (cZ, 2, .inl o_isKept_v))] sz) := by
  refine hg_ofW (cc := cX5_concert) (maxL := 2) (ret := (some .int)) (own := RX5) (fun A => hgQi (dC, dI) u.1 [(o_h, .inr (5, [.int u.2.1, .int u.2.2.1, .ref o_price, .ref o_breath, .ref o_kind, .ref o_looks, .ref o_noise, .ref o_repeat, .ref o_now, .ref o_readPlayer, .ref o_readBar, .int u.2.2.2.1, .int u.2.2.2.2.1, .ref o_text, .int o_length, .int u.2.2.2.2.2.1, .int u.2.2.2.2.2.2.1, .int u.2.2.2.2.2.2.2.1, .int o_next, .ref o_row, .int o_heard, .ref o_heardOf, .ref o_heardBars, .ref o_heardPlays, .int o_hushWho, .int o_hushSum, .long o_seed, .ref o_isKept, .ref o_kept])), (o_text, .inl (cI, 56, .inl o_text_v)), (o_readBar, .inl (cI, 16, .inl u.2.2.2.2.2.2.2.2.1)), (o_readPlayer, .inl (cI, 24, .inl u.2.2.2.2.2.2.2.2.2.1)), (o_now, .inl (cI, 32, .inl u.2.2.2.2.2.2.2.2.2.2.1)), (o_price, .inl (cI, 6, .inl u.2.2.2.2.2.2.2.2.2.2.2.1)), (o_breath, .inl (cI, 6, .inl u.2.2.2.2.2.2.2.2.2.2.2.2.1)), (o_kind, .inl (cI, 6, .inl u.2.2.2.2.2.2.2.2.2.2.2.2.2.1)), (o_looks, .inl (cI, 6, .inl u.2.2.2.2.2.2.2.2.2.2.2.2.2.2.1)), (o_noise, .inl (cI, 8, .inl u.2.2.2.2.2.2.2.2.2.2.2.2.2.2.2.1)), (o_repeat, .inl (cI, 8, .inl u.2.2.2.2.2.2.2.2.2.2.2.2.2.2.2.2.1)), (o_isKept, .inl (cZ, 2, .inl u.2.2.2.2.2.2.2.2.2.2.2.2.2.2.2.2.2))] A) rfl (by decide) rfl (Nat.le_of_ble_eq_true rfl) ?_
  intro p e s m below meth c ls A hsz hx hb hr hml hown hts hlk hnm hK hN hA hP hD hS hl
  subst hsz
  have w1 := hts (.fieldLink RX5 75 "HatGoesRoundModel" "readPlayers" "I") (List.mem_of_getElem? (i := 1) rfl)
  have hinX5 : ∀ w ∈ u_ws RX5 TX5 29, w ∈ wsX5_concert := fun _ h => List.mem_cons_of_mem _ (List.mem_append_right _ h)
  have w2 := hts (.fieldLink RX5 93 "HatGoesRoundModel" "players" "I") (List.mem_of_getElem? (i := 2) rfl)
  have w3 := hts (.fieldLink RX5 78 "HatGoesRoundModel" "readBars" "I") (List.mem_of_getElem? (i := 3) rfl)
  have w4 := hts (.fieldLink RX5 96 "HatGoesRoundModel" "bars" "I") (List.mem_of_getElem? (i := 4) rfl)
  have w5 := hts (.fieldLink RX5 28 "HatGoesRoundModel" "now" "[I") (List.mem_of_getElem? (i := 5) rfl)
  have w6 := hts (.fieldLink RX5 7 "HatGoesRoundModel" "price" "[I") (List.mem_of_getElem? (i := 6) rfl)
  have w7 := hts (.fieldLink RX5 31 "HatGoesRoundModel" "readPlayer" "[I") (List.mem_of_getElem? (i := 7) rfl)
  have w8 := hts (.fieldLink RX5 13 "HatGoesRoundModel" "breath" "[I") (List.mem_of_getElem? (i := 8) rfl)
  have w9 := hts (.fieldLink RX5 16 "HatGoesRoundModel" "kind" "[I") (List.mem_of_getElem? (i := 9) rfl)
  have w10 := hts (.fieldLink RX5 19 "HatGoesRoundModel" "looks" "[I") (List.mem_of_getElem? (i := 10) rfl)
  have w11 := hts (.fieldLink RX5 22 "HatGoesRoundModel" "noise" "[I") (List.mem_of_getElem? (i := 11) rfl)
  have w12 := hts (.fieldLink RX5 34 "HatGoesRoundModel" "readBar" "[I") (List.mem_of_getElem? (i := 12) rfl)
  have w13 := hts (.fieldLink RX5 25 "HatGoesRoundModel" "repeat" "[I") (List.mem_of_getElem? (i := 13) rfl)
  have w14 := hts (.fieldLink RX5 99 "HatGoesRoundModel" "acts" "I") (List.mem_of_getElem? (i := 14) rfl)
  have w15 := hts (.fieldLink RX5 52 "HatGoesRoundModel" "isKept" "[Z") (List.mem_of_getElem? (i := 15) rfl)
  have hl : lv_has ls 2 [(0, .ref o_h)] := hl
  unfold f_X5_concert at hu
  refine lv_aload_n hx hb dX5_concert_0 rfl (lv_at hl 0 rfl) ?_
  obtain ⟨r1, er1, hu⟩ := lxb_o hu
  refine hg_ciE (va_runV (As := []) (rest := []) ⟨hx, hb, hml, hown, hts⟩ (c_X5_readText l dC dI cI cZ cM _ o_h o_players o_bars o_price o_breath o_kind o_looks o_noise o_repeat o_now o_readPlayer o_readBar o_readPlayers o_readBars o_text o_length o_at o_faultAt o_acts o_next o_row o_heard o_heardOf o_heardBars o_heardPlays o_hushWho o_hushSum o_seed o_isKept o_kept o_text_v o_readBar_v o_readPlayer_v np enp (by omega) nb enb (by omega) nl enl (by omega) r1 er1) (cwV 0 hts gX5_concert_X5_readText rfl rfl rfl (by decide +kernel) ⟨Nat.le_of_ble_eq_true rfl, Nat.le_of_ble_eq_true rfl⟩) (hgPreV (C := RX5) (T := TX5) (N := 29) (ci := 5) (q0 := 0) hP hD hK hN [0, 1, 2, 3] rfl rfl rfl rfl) rfl rfl hl.1 rfl (lv_room (Nat.le_of_ble_eq_true rfl)) dX5_concert_1 ⟨Nat.zero_le _, Nat.zero_le _⟩) hP hD hS hA (wr := [(o_now, .inl (cI, 32, .inl o_now_v)), (o_price, .inl (cI, 6, .inl o_price_v)), (o_breath, .inl (cI, 6, .inl o_breath_v)), (o_kind, .inl (cI, 6, .inl o_kind_v)), (o_looks, .inl (cI, 6, .inl o_looks_v)), (o_noise, .inl (cI, 8, .inl o_noise_v)), (o_repeat, .inl (cI, 8, .inl o_repeat_v)), (o_isKept, .inl (cZ, 2, .inl o_isKept_v))]) (wf := [(o_h, .inr (5, [.int o_players, .int o_bars, .ref o_price, .ref o_breath, .ref o_kind, .ref o_looks, .ref o_noise, .ref o_repeat, .ref o_now, .ref o_readPlayer, .ref o_readBar, .int r1.2.1, .int r1.2.2.1, .ref o_text, .int o_length, .int r1.2.2.2.1, .int r1.2.2.2.2.1, .int o_acts, .int o_next, .ref o_row, .int o_heard, .ref o_heardOf, .ref o_heardBars, .ref o_heardPlays, .int o_hushWho, .int o_hushSum, .long o_seed, .ref o_isKept, .ref o_kept])), (o_text, .inl (cI, 56, .inl o_text_v)), (o_readBar, .inl (cI, 16, .inl r1.2.2.2.2.2.1)), (o_readPlayer, .inl (cI, 24, .inl r1.2.2.2.2.2.2)), (o_now, .inl (cI, 32, .inl o_now_v)), (o_price, .inl (cI, 6, .inl o_price_v)), (o_breath, .inl (cI, 6, .inl o_breath_v)), (o_kind, .inl (cI, 6, .inl o_kind_v)), (o_looks, .inl (cI, 6, .inl o_looks_v)), (o_noise, .inl (cI, 8, .inl o_noise_v)), (o_repeat, .inl (cI, 8, .inl o_repeat_v)), (o_isKept, .inl (cZ, 2, .inl o_isKept_v))]) [0, 1, 2, 3] [4, 5, 6, 7, 8, 9, 10, 11] [8, 9, 10, 11, 0, 1, 2, 3, 4, 5, 6, 7] rfl rfl rfl (by decide) rfl rfl (fun hB2 H locs hP hD hS => ?_)
  obtain ⟨ca, cb, eca, hca, ecb, hcb⟩ := hB2
  refine lv_bipush (v := (-9)) hx hb dX5_concert_4 (by decide) ?_
  refine lv_icmp_eq (tgt := 12) hx hb dX5_concert_6 (by decide) (fun c_6 => ?_) (fun c_6 => ?_)
  · have hu := hu.trans (if_pos c_6)
    refine lv_aload_n hx hb dX5_concert_12 rfl (lv_at hl 0 rfl) ?_
    refine lv_aload_n hx hb dX5_concert_13 rfl (lv_at hl 0 rfl) ?_
    refine va_get (D := (dC, dI)) (ci := 5) (v := .int r1.2.1) (C := RX5) (T := TX5) (N := 29) hx hb hts hinX5 hown hK hP 0 rfl rfl 11 (by decide) w1 (fun _ h9 => h9) rfl dX5_concert_14 ?_
    refine va_put (D := (dC, dI)) (ci := 5) (v := .int r1.2.1) (ty := .int) (C := RX5) (T := TX5) (N := 29) hx hb hts hinX5 tyX5 tyX5_ok nmX5 hown hK hP hD hS 0 rfl rfl 0 (by decide) w2 (fun _ h9 => h9) rfl (by decide +kernel) rfl rfl (Nat.le_of_ble_eq_true rfl) dX5_concert_17 (fun H locs hP hD hS => ?_)
    have hP : va_P (dC, dI) vwCl [(o_h, .inr (5, [.int r1.2.1, .int o_bars, .ref o_price, .ref o_breath, .ref o_kind, .ref o_looks, .ref o_noise, .ref o_repeat, .ref o_now, .ref o_readPlayer, .ref o_readBar, .int r1.2.1, .int r1.2.2.1, .ref o_text, .int o_length, .int r1.2.2.2.1, .int r1.2.2.2.2.1, .int o_acts, .int o_next, .ref o_row, .int o_heard, .ref o_heardOf, .ref o_heardBars, .ref o_heardPlays, .int o_hushWho, .int o_hushSum, .long o_seed, .ref o_isKept, .ref o_kept])), (o_text, .inl (cI, 56, .inl o_text_v)), (o_readBar, .inl (cI, 16, .inl r1.2.2.2.2.2.1)), (o_readPlayer, .inl (cI, 24, .inl r1.2.2.2.2.2.2)), (o_now, .inl (cI, 32, .inl o_now_v)), (o_price, .inl (cI, 6, .inl o_price_v)), (o_breath, .inl (cI, 6, .inl o_breath_v)), (o_kind, .inl (cI, 6, .inl o_kind_v)), (o_looks, .inl (cI, 6, .inl o_looks_v)), (o_noise, .inl (cI, 8, .inl o_noise_v)), (o_repeat, .inl (cI, 8, .inl o_repeat_v)), (o_isKept, .inl (cZ, 2, .inl o_isKept_v))] H := hP
    have hD : va_D A [(o_h, .inr (5, [.int r1.2.1, .int o_bars, .ref o_price, .ref o_breath, .ref o_kind, .ref o_looks, .ref o_noise, .ref o_repeat, .ref o_now, .ref o_readPlayer, .ref o_readBar, .int r1.2.1, .int r1.2.2.1, .ref o_text, .int o_length, .int r1.2.2.2.1, .int r1.2.2.2.2.1, .int o_acts, .int o_next, .ref o_row, .int o_heard, .ref o_heardOf, .ref o_heardBars, .ref o_heardPlays, .int o_hushWho, .int o_hushSum, .long o_seed, .ref o_isKept, .ref o_kept])), (o_text, .inl (cI, 56, .inl o_text_v)), (o_readBar, .inl (cI, 16, .inl r1.2.2.2.2.2.1)), (o_readPlayer, .inl (cI, 24, .inl r1.2.2.2.2.2.2)), (o_now, .inl (cI, 32, .inl o_now_v)), (o_price, .inl (cI, 6, .inl o_price_v)), (o_breath, .inl (cI, 6, .inl o_breath_v)), (o_kind, .inl (cI, 6, .inl o_kind_v)), (o_looks, .inl (cI, 6, .inl o_looks_v)), (o_noise, .inl (cI, 8, .inl o_noise_v)), (o_repeat, .inl (cI, 8, .inl o_repeat_v)), (o_isKept, .inl (cZ, 2, .inl o_isKept_v))] := hD
    refine lv_aload_n hx hb dX5_concert_20 rfl (lv_at hl 0 rfl) ?_
    refine lv_aload_n hx hb dX5_concert_21 rfl (lv_at hl 0 rfl) ?_
    refine va_get (D := (dC, dI)) (ci := 5) (v := .int r1.2.2.1) (C := RX5) (T := TX5) (N := 29) hx hb hts hinX5 hown hK hP 0 rfl rfl 12 (by decide) w3 (fun _ h9 => h9) rfl dX5_concert_22 ?_
    refine va_put (D := (dC, dI)) (ci := 5) (v := .int r1.2.2.1) (ty := .int) (C := RX5) (T := TX5) (N := 29) hx hb hts hinX5 tyX5 tyX5_ok nmX5 hown hK hP hD hS 0 rfl rfl 1 (by decide) w4 (fun _ h9 => h9) rfl (by decide +kernel) rfl rfl (Nat.le_of_ble_eq_true rfl) dX5_concert_25 (fun H locs hP hD hS => ?_)
    have hP : va_P (dC, dI) vwCl [(o_h, .inr (5, [.int r1.2.1, .int r1.2.2.1, .ref o_price, .ref o_breath, .ref o_kind, .ref o_looks, .ref o_noise, .ref o_repeat, .ref o_now, .ref o_readPlayer, .ref o_readBar, .int r1.2.1, .int r1.2.2.1, .ref o_text, .int o_length, .int r1.2.2.2.1, .int r1.2.2.2.2.1, .int o_acts, .int o_next, .ref o_row, .int o_heard, .ref o_heardOf, .ref o_heardBars, .ref o_heardPlays, .int o_hushWho, .int o_hushSum, .long o_seed, .ref o_isKept, .ref o_kept])), (o_text, .inl (cI, 56, .inl o_text_v)), (o_readBar, .inl (cI, 16, .inl r1.2.2.2.2.2.1)), (o_readPlayer, .inl (cI, 24, .inl r1.2.2.2.2.2.2)), (o_now, .inl (cI, 32, .inl o_now_v)), (o_price, .inl (cI, 6, .inl o_price_v)), (o_breath, .inl (cI, 6, .inl o_breath_v)), (o_kind, .inl (cI, 6, .inl o_kind_v)), (o_looks, .inl (cI, 6, .inl o_looks_v)), (o_noise, .inl (cI, 8, .inl o_noise_v)), (o_repeat, .inl (cI, 8, .inl o_repeat_v)), (o_isKept, .inl (cZ, 2, .inl o_isKept_v))] H := hP
    have hD : va_D A [(o_h, .inr (5, [.int r1.2.1, .int r1.2.2.1, .ref o_price, .ref o_breath, .ref o_kind, .ref o_looks, .ref o_noise, .ref o_repeat, .ref o_now, .ref o_readPlayer, .ref o_readBar, .int r1.2.1, .int r1.2.2.1, .ref o_text, .int o_length, .int r1.2.2.2.1, .int r1.2.2.2.2.1, .int o_acts, .int o_next, .ref o_row, .int o_heard, .ref o_heardOf, .ref o_heardBars, .ref o_heardPlays, .int o_hushWho, .int o_hushSum, .long o_seed, .ref o_isKept, .ref o_kept])), (o_text, .inl (cI, 56, .inl o_text_v)), (o_readBar, .inl (cI, 16, .inl r1.2.2.2.2.2.1)), (o_readPlayer, .inl (cI, 24, .inl r1.2.2.2.2.2.2)), (o_now, .inl (cI, 32, .inl o_now_v)), (o_price, .inl (cI, 6, .inl o_price_v)), (o_breath, .inl (cI, 6, .inl o_breath_v)), (o_kind, .inl (cI, 6, .inl o_kind_v)), (o_looks, .inl (cI, 6, .inl o_looks_v)), (o_noise, .inl (cI, 8, .inl o_noise_v)), (o_repeat, .inl (cI, 8, .inl o_repeat_v)), (o_isKept, .inl (cZ, 2, .inl o_isKept_v))] := hD
    refine lv_iconst (v := 0) hx hb dX5_concert_28 (by decide) ?_
    refine lv_istore_n (lv' := [(1, .int 0), (0, .ref o_h)]) hx hb dX5_concert_29 rfl hl (by decide) rfl (fun ls hl => ?_)
    obtain ⟨r3, er3, hu⟩ := lxb_o hu
    refine hg_loopF (T := (Nat → Int32)) (N := (itn 0 16)) (fun v30 => [(o_h, .inr (5, [.int r1.2.1, .int r1.2.2.1, .ref o_price, .ref o_breath, .ref o_kind, .ref o_looks, .ref o_noise, .ref o_repeat, .ref o_now, .ref o_readPlayer, .ref o_readBar, .int r1.2.1, .int r1.2.2.1, .ref o_text, .int o_length, .int r1.2.2.2.1, .int r1.2.2.2.2.1, .int o_acts, .int o_next, .ref o_row, .int o_heard, .ref o_heardOf, .ref o_heardBars, .ref o_heardPlays, .int o_hushWho, .int o_hushSum, .long o_seed, .ref o_isKept, .ref o_kept])), (o_text, .inl (cI, 56, .inl o_text_v)), (o_readBar, .inl (cI, 16, .inl r1.2.2.2.2.2.1)), (o_readPlayer, .inl (cI, 24, .inl r1.2.2.2.2.2.2)), (o_now, .inl (cI, 32, .inl v30)), (o_price, .inl (cI, 6, .inl o_price_v)), (o_breath, .inl (cI, 6, .inl o_breath_v)), (o_kind, .inl (cI, 6, .inl o_kind_v)), (o_looks, .inl (cI, 6, .inl o_looks_v)), (o_noise, .inl (cI, 8, .inl o_noise_v)), (o_repeat, .inl (cI, 8, .inl o_repeat_v)), (o_isKept, .inl (cZ, 2, .inl o_isKept_v))]) (fun k30 v30 => [(0, .ref o_h), (1, .int (nI k30))]) (fun k30 => l_X5_concert_30 o_now_v k30) ?_ ?_ hP hD hS (lv_sub hl [1, 0] rfl)
    · intro v30 hv H locs ls hP hD hS hl
      obtain rfl : r3 = v30 := er3.trans hv.symm
      have hP : va_P (dC, dI) vwCl [(o_h, .inr (5, [.int r1.2.1, .int r1.2.2.1, .ref o_price, .ref o_breath, .ref o_kind, .ref o_looks, .ref o_noise, .ref o_repeat, .ref o_now, .ref o_readPlayer, .ref o_readBar, .int r1.2.1, .int r1.2.2.1, .ref o_text, .int o_length, .int r1.2.2.2.1, .int r1.2.2.2.2.1, .int o_acts, .int o_next, .ref o_row, .int o_heard, .ref o_heardOf, .ref o_heardBars, .ref o_heardPlays, .int o_hushWho, .int o_hushSum, .long o_seed, .ref o_isKept, .ref o_kept])), (o_text, .inl (cI, 56, .inl o_text_v)), (o_readBar, .inl (cI, 16, .inl r1.2.2.2.2.2.1)), (o_readPlayer, .inl (cI, 24, .inl r1.2.2.2.2.2.2)), (o_now, .inl (cI, 32, .inl r3)), (o_price, .inl (cI, 6, .inl o_price_v)), (o_breath, .inl (cI, 6, .inl o_breath_v)), (o_kind, .inl (cI, 6, .inl o_kind_v)), (o_looks, .inl (cI, 6, .inl o_looks_v)), (o_noise, .inl (cI, 8, .inl o_noise_v)), (o_repeat, .inl (cI, 8, .inl o_repeat_v)), (o_isKept, .inl (cZ, 2, .inl o_isKept_v))] H := hP
      have hD : va_D A [(o_h, .inr (5, [.int r1.2.1, .int r1.2.2.1, .ref o_price, .ref o_breath, .ref o_kind, .ref o_looks, .ref o_noise, .ref o_repeat, .ref o_now, .ref o_readPlayer, .ref o_readBar, .int r1.2.1, .int r1.2.2.1, .ref o_text, .int o_length, .int r1.2.2.2.1, .int r1.2.2.2.2.1, .int o_acts, .int o_next, .ref o_row, .int o_heard, .ref o_heardOf, .ref o_heardBars, .ref o_heardPlays, .int o_hushWho, .int o_hushSum, .long o_seed, .ref o_isKept, .ref o_kept])), (o_text, .inl (cI, 56, .inl o_text_v)), (o_readBar, .inl (cI, 16, .inl r1.2.2.2.2.2.1)), (o_readPlayer, .inl (cI, 24, .inl r1.2.2.2.2.2.2)), (o_now, .inl (cI, 32, .inl r3)), (o_price, .inl (cI, 6, .inl o_price_v)), (o_breath, .inl (cI, 6, .inl o_breath_v)), (o_kind, .inl (cI, 6, .inl o_kind_v)), (o_looks, .inl (cI, 6, .inl o_looks_v)), (o_noise, .inl (cI, 8, .inl o_noise_v)), (o_repeat, .inl (cI, 8, .inl o_repeat_v)), (o_isKept, .inl (cZ, 2, .inl o_isKept_v))] := hD
      have hl : lv_has ls 2 [(0, .ref o_h), (1, .int (nI (itn 0 16)))] := hl
      refine lv_iload_n hx hb dX5_concert_30 rfl (lv_at hl 1 rfl) ?_
      refine lv_bipush (v := 16) hx hb dX5_concert_31 (by decide) ?_
      refine lv_icmp_ge (tgt := 49) hx hb dX5_concert_33 (by decide) (fun c_33 => ?_) (fun c_33 => absurd hg_lo0 c_33)
      refine lv_iconst (v := 0) hx hb dX5_concert_49 (by decide) ?_
      refine lv_istore_n (lv' := [(1, .int 0), (0, .ref o_h)]) hx hb dX5_concert_50 rfl hl (by decide) rfl (fun ls hl => ?_)
      obtain ⟨r9, er9, hu⟩ := lxb_o hu
      refine hg_loopF (T := (Nat → Int32) × (Nat → Int32) × (Nat → Int32) × (Nat → Int32) × (Nat → Int32)) (N := (itn 0 r1.2.1)) (fun v51 => [(o_h, .inr (5, [.int r1.2.1, .int r1.2.2.1, .ref o_price, .ref o_breath, .ref o_kind, .ref o_looks, .ref o_noise, .ref o_repeat, .ref o_now, .ref o_readPlayer, .ref o_readBar, .int r1.2.1, .int r1.2.2.1, .ref o_text, .int o_length, .int r1.2.2.2.1, .int r1.2.2.2.2.1, .int o_acts, .int o_next, .ref o_row, .int o_heard, .ref o_heardOf, .ref o_heardBars, .ref o_heardPlays, .int o_hushWho, .int o_hushSum, .long o_seed, .ref o_isKept, .ref o_kept])), (o_text, .inl (cI, 56, .inl o_text_v)), (o_readBar, .inl (cI, 16, .inl r1.2.2.2.2.2.1)), (o_readPlayer, .inl (cI, 24, .inl r1.2.2.2.2.2.2)), (o_now, .inl (cI, 32, .inl v51.1)), (o_price, .inl (cI, 6, .inl v51.2.1)), (o_breath, .inl (cI, 6, .inl v51.2.2.1)), (o_kind, .inl (cI, 6, .inl v51.2.2.2.1)), (o_looks, .inl (cI, 6, .inl v51.2.2.2.2)), (o_noise, .inl (cI, 8, .inl o_noise_v)), (o_repeat, .inl (cI, 8, .inl o_repeat_v)), (o_isKept, .inl (cZ, 2, .inl o_isKept_v))]) (fun k51 v51 => [(0, .ref o_h), (1, .int (nI k51))]) (fun k51 => l_X5_concert_51 r1 (r3, o_price_v, o_breath_v, o_kind_v, o_looks_v) k51) ?_ ?_ hP hD hS (lv_sub hl [1, 0] rfl)
      · intro v51 hv H locs ls hP hD hS hl
        obtain rfl : r9 = v51 := er9.trans hv.symm
        have hP : va_P (dC, dI) vwCl [(o_h, .inr (5, [.int r1.2.1, .int r1.2.2.1, .ref o_price, .ref o_breath, .ref o_kind, .ref o_looks, .ref o_noise, .ref o_repeat, .ref o_now, .ref o_readPlayer, .ref o_readBar, .int r1.2.1, .int r1.2.2.1, .ref o_text, .int o_length, .int r1.2.2.2.1, .int r1.2.2.2.2.1, .int o_acts, .int o_next, .ref o_row, .int o_heard, .ref o_heardOf, .ref o_heardBars, .ref o_heardPlays, .int o_hushWho, .int o_hushSum, .long o_seed, .ref o_isKept, .ref o_kept])), (o_text, .inl (cI, 56, .inl o_text_v)), (o_readBar, .inl (cI, 16, .inl r1.2.2.2.2.2.1)), (o_readPlayer, .inl (cI, 24, .inl r1.2.2.2.2.2.2)), (o_now, .inl (cI, 32, .inl r9.1)), (o_price, .inl (cI, 6, .inl r9.2.1)), (o_breath, .inl (cI, 6, .inl r9.2.2.1)), (o_kind, .inl (cI, 6, .inl r9.2.2.2.1)), (o_looks, .inl (cI, 6, .inl r9.2.2.2.2)), (o_noise, .inl (cI, 8, .inl o_noise_v)), (o_repeat, .inl (cI, 8, .inl o_repeat_v)), (o_isKept, .inl (cZ, 2, .inl o_isKept_v))] H := hP
        have hD : va_D A [(o_h, .inr (5, [.int r1.2.1, .int r1.2.2.1, .ref o_price, .ref o_breath, .ref o_kind, .ref o_looks, .ref o_noise, .ref o_repeat, .ref o_now, .ref o_readPlayer, .ref o_readBar, .int r1.2.1, .int r1.2.2.1, .ref o_text, .int o_length, .int r1.2.2.2.1, .int r1.2.2.2.2.1, .int o_acts, .int o_next, .ref o_row, .int o_heard, .ref o_heardOf, .ref o_heardBars, .ref o_heardPlays, .int o_hushWho, .int o_hushSum, .long o_seed, .ref o_isKept, .ref o_kept])), (o_text, .inl (cI, 56, .inl o_text_v)), (o_readBar, .inl (cI, 16, .inl r1.2.2.2.2.2.1)), (o_readPlayer, .inl (cI, 24, .inl r1.2.2.2.2.2.2)), (o_now, .inl (cI, 32, .inl r9.1)), (o_price, .inl (cI, 6, .inl r9.2.1)), (o_breath, .inl (cI, 6, .inl r9.2.2.1)), (o_kind, .inl (cI, 6, .inl r9.2.2.2.1)), (o_looks, .inl (cI, 6, .inl r9.2.2.2.2)), (o_noise, .inl (cI, 8, .inl o_noise_v)), (o_repeat, .inl (cI, 8, .inl o_repeat_v)), (o_isKept, .inl (cZ, 2, .inl o_isKept_v))] := hD
        have hl : lv_has ls 2 [(0, .ref o_h), (1, .int (nI (itn 0 r1.2.1)))] := hl
        refine lv_iload_n hx hb dX5_concert_51 rfl (lv_at hl 1 rfl) ?_
        refine lv_aload_n hx hb dX5_concert_52 rfl (lv_at hl 0 rfl) ?_
        refine va_get (D := (dC, dI)) (ci := 5) (v := .int r1.2.1) (C := RX5) (T := TX5) (N := 29) hx hb hts hinX5 hown hK hP 0 rfl rfl 0 (by decide) w2 (fun _ h9 => h9) rfl dX5_concert_53 ?_
        refine lv_icmp_ge (tgt := 142) hx hb dX5_concert_56 (by decide) (fun c_56 => ?_) (fun c_56 => absurd hg_lo0 c_56)
        refine lv_iconst (v := 0) hx hb dX5_concert_142 (by decide) ?_
        refine lv_istore_n (lv' := [(1, .int 0), (0, .ref o_h)]) hx hb dX5_concert_143 rfl hl (by decide) rfl (fun ls hl => ?_)
        obtain ⟨r12, er12, hu⟩ := lxb_o hu
        refine hg_loopF (T := (Nat → Int32) × (Nat → Int32)) (N := (itn 0 r1.2.2.1)) (fun v144 => [(o_h, .inr (5, [.int r1.2.1, .int r1.2.2.1, .ref o_price, .ref o_breath, .ref o_kind, .ref o_looks, .ref o_noise, .ref o_repeat, .ref o_now, .ref o_readPlayer, .ref o_readBar, .int r1.2.1, .int r1.2.2.1, .ref o_text, .int o_length, .int r1.2.2.2.1, .int r1.2.2.2.2.1, .int o_acts, .int o_next, .ref o_row, .int o_heard, .ref o_heardOf, .ref o_heardBars, .ref o_heardPlays, .int o_hushWho, .int o_hushSum, .long o_seed, .ref o_isKept, .ref o_kept])), (o_text, .inl (cI, 56, .inl o_text_v)), (o_readBar, .inl (cI, 16, .inl r1.2.2.2.2.2.1)), (o_readPlayer, .inl (cI, 24, .inl r1.2.2.2.2.2.2)), (o_now, .inl (cI, 32, .inl r9.1)), (o_price, .inl (cI, 6, .inl r9.2.1)), (o_breath, .inl (cI, 6, .inl r9.2.2.1)), (o_kind, .inl (cI, 6, .inl r9.2.2.2.1)), (o_looks, .inl (cI, 6, .inl r9.2.2.2.2)), (o_noise, .inl (cI, 8, .inl v144.1)), (o_repeat, .inl (cI, 8, .inl v144.2)), (o_isKept, .inl (cZ, 2, .inl o_isKept_v))]) (fun k144 v144 => [(0, .ref o_h), (1, .int (nI k144))]) (fun k144 => l_X5_concert_144 r1 (o_noise_v, o_repeat_v) k144) ?_ ?_ hP hD hS (lv_sub hl [1, 0] rfl)
        · intro v144 hv H locs ls hP hD hS hl
          obtain rfl : r12 = v144 := er12.trans hv.symm
          have hP : va_P (dC, dI) vwCl [(o_h, .inr (5, [.int r1.2.1, .int r1.2.2.1, .ref o_price, .ref o_breath, .ref o_kind, .ref o_looks, .ref o_noise, .ref o_repeat, .ref o_now, .ref o_readPlayer, .ref o_readBar, .int r1.2.1, .int r1.2.2.1, .ref o_text, .int o_length, .int r1.2.2.2.1, .int r1.2.2.2.2.1, .int o_acts, .int o_next, .ref o_row, .int o_heard, .ref o_heardOf, .ref o_heardBars, .ref o_heardPlays, .int o_hushWho, .int o_hushSum, .long o_seed, .ref o_isKept, .ref o_kept])), (o_text, .inl (cI, 56, .inl o_text_v)), (o_readBar, .inl (cI, 16, .inl r1.2.2.2.2.2.1)), (o_readPlayer, .inl (cI, 24, .inl r1.2.2.2.2.2.2)), (o_now, .inl (cI, 32, .inl r9.1)), (o_price, .inl (cI, 6, .inl r9.2.1)), (o_breath, .inl (cI, 6, .inl r9.2.2.1)), (o_kind, .inl (cI, 6, .inl r9.2.2.2.1)), (o_looks, .inl (cI, 6, .inl r9.2.2.2.2)), (o_noise, .inl (cI, 8, .inl r12.1)), (o_repeat, .inl (cI, 8, .inl r12.2)), (o_isKept, .inl (cZ, 2, .inl o_isKept_v))] H := hP
          have hD : va_D A [(o_h, .inr (5, [.int r1.2.1, .int r1.2.2.1, .ref o_price, .ref o_breath, .ref o_kind, .ref o_looks, .ref o_noise, .ref o_repeat, .ref o_now, .ref o_readPlayer, .ref o_readBar, .int r1.2.1, .int r1.2.2.1, .ref o_text, .int o_length, .int r1.2.2.2.1, .int r1.2.2.2.2.1, .int o_acts, .int o_next, .ref o_row, .int o_heard, .ref o_heardOf, .ref o_heardBars, .ref o_heardPlays, .int o_hushWho, .int o_hushSum, .long o_seed, .ref o_isKept, .ref o_kept])), (o_text, .inl (cI, 56, .inl o_text_v)), (o_readBar, .inl (cI, 16, .inl r1.2.2.2.2.2.1)), (o_readPlayer, .inl (cI, 24, .inl r1.2.2.2.2.2.2)), (o_now, .inl (cI, 32, .inl r9.1)), (o_price, .inl (cI, 6, .inl r9.2.1)), (o_breath, .inl (cI, 6, .inl r9.2.2.1)), (o_kind, .inl (cI, 6, .inl r9.2.2.2.1)), (o_looks, .inl (cI, 6, .inl r9.2.2.2.2)), (o_noise, .inl (cI, 8, .inl r12.1)), (o_repeat, .inl (cI, 8, .inl r12.2)), (o_isKept, .inl (cZ, 2, .inl o_isKept_v))] := hD
          have hl : lv_has ls 2 [(0, .ref o_h), (1, .int (nI (itn 0 r1.2.2.1)))] := hl
          refine lv_iload_n hx hb dX5_concert_144 rfl (lv_at hl 1 rfl) ?_
          refine lv_aload_n hx hb dX5_concert_145 rfl (lv_at hl 0 rfl) ?_
          refine va_get (D := (dC, dI)) (ci := 5) (v := .int r1.2.2.1) (C := RX5) (T := TX5) (N := 29) hx hb hts hinX5 hown hK hP 0 rfl rfl 1 (by decide) w4 (fun _ h9 => h9) rfl dX5_concert_146 ?_
          refine lv_icmp_ge (tgt := 188) hx hb dX5_concert_149 (by decide) (fun c_149 => ?_) (fun c_149 => absurd hg_lo0 c_149)
          refine lv_aload_n hx hb dX5_concert_188 rfl (lv_at hl 0 rfl) ?_
          refine lv_iconst (v := 0) hx hb dX5_concert_189 (by decide) ?_
          refine va_put (D := (dC, dI)) (ci := 5) (v := .int 0) (ty := .int) (C := RX5) (T := TX5) (N := 29) hx hb hts hinX5 tyX5 tyX5_ok nmX5 hown hK hP hD hS 0 rfl rfl 17 (by decide) w14 (fun _ h9 => h9) rfl (by decide +kernel) rfl rfl (Nat.le_of_ble_eq_true rfl) dX5_concert_190 (fun H locs hP hD hS => ?_)
          have hP : va_P (dC, dI) vwCl [(o_h, .inr (5, [.int r1.2.1, .int r1.2.2.1, .ref o_price, .ref o_breath, .ref o_kind, .ref o_looks, .ref o_noise, .ref o_repeat, .ref o_now, .ref o_readPlayer, .ref o_readBar, .int r1.2.1, .int r1.2.2.1, .ref o_text, .int o_length, .int r1.2.2.2.1, .int r1.2.2.2.2.1, .int 0, .int o_next, .ref o_row, .int o_heard, .ref o_heardOf, .ref o_heardBars, .ref o_heardPlays, .int o_hushWho, .int o_hushSum, .long o_seed, .ref o_isKept, .ref o_kept])), (o_text, .inl (cI, 56, .inl o_text_v)), (o_readBar, .inl (cI, 16, .inl r1.2.2.2.2.2.1)), (o_readPlayer, .inl (cI, 24, .inl r1.2.2.2.2.2.2)), (o_now, .inl (cI, 32, .inl r9.1)), (o_price, .inl (cI, 6, .inl r9.2.1)), (o_breath, .inl (cI, 6, .inl r9.2.2.1)), (o_kind, .inl (cI, 6, .inl r9.2.2.2.1)), (o_looks, .inl (cI, 6, .inl r9.2.2.2.2)), (o_noise, .inl (cI, 8, .inl r12.1)), (o_repeat, .inl (cI, 8, .inl r12.2)), (o_isKept, .inl (cZ, 2, .inl o_isKept_v))] H := hP
          have hD : va_D A [(o_h, .inr (5, [.int r1.2.1, .int r1.2.2.1, .ref o_price, .ref o_breath, .ref o_kind, .ref o_looks, .ref o_noise, .ref o_repeat, .ref o_now, .ref o_readPlayer, .ref o_readBar, .int r1.2.1, .int r1.2.2.1, .ref o_text, .int o_length, .int r1.2.2.2.1, .int r1.2.2.2.2.1, .int 0, .int o_next, .ref o_row, .int o_heard, .ref o_heardOf, .ref o_heardBars, .ref o_heardPlays, .int o_hushWho, .int o_hushSum, .long o_seed, .ref o_isKept, .ref o_kept])), (o_text, .inl (cI, 56, .inl o_text_v)), (o_readBar, .inl (cI, 16, .inl r1.2.2.2.2.2.1)), (o_readPlayer, .inl (cI, 24, .inl r1.2.2.2.2.2.2)), (o_now, .inl (cI, 32, .inl r9.1)), (o_price, .inl (cI, 6, .inl r9.2.1)), (o_breath, .inl (cI, 6, .inl r9.2.2.1)), (o_kind, .inl (cI, 6, .inl r9.2.2.2.1)), (o_looks, .inl (cI, 6, .inl r9.2.2.2.2)), (o_noise, .inl (cI, 8, .inl r12.1)), (o_repeat, .inl (cI, 8, .inl r12.2)), (o_isKept, .inl (cZ, 2, .inl o_isKept_v))] := hD
          refine lv_aload_n hx hb dX5_concert_193 rfl (lv_at hl 0 rfl) ?_
          refine va_get (D := (dC, dI)) (ci := 5) (v := .ref o_isKept) (C := RX5) (T := TX5) (N := 29) hx hb hts hinX5 hown hK hP 0 rfl rfl 27 (by decide) w15 (fun _ h9 => h9) rfl dX5_concert_194 ?_
          refine lv_iconst (v := 0) hx hb dX5_concert_197 (by decide) ?_
          refine lv_iconst (v := 0) hx hb dX5_concert_198 (by decide) ?_
          refine va_zast hx hb hK hP hD hS 11 1 rfl rfl (n := 2) (f := o_isKept_v) (hg_in (n := 0) (N := 2) (show (0 : Int32) = nI 0 from rfl) (by omega) (by decide)) dX5_concert_199 (fun H locs hP hD hS => ?_)
          have hP : va_P (dC, dI) vwCl [(o_h, .inr (5, [.int r1.2.1, .int r1.2.2.1, .ref o_price, .ref o_breath, .ref o_kind, .ref o_looks, .ref o_noise, .ref o_repeat, .ref o_now, .ref o_readPlayer, .ref o_readBar, .int r1.2.1, .int r1.2.2.1, .ref o_text, .int o_length, .int r1.2.2.2.1, .int r1.2.2.2.2.1, .int 0, .int o_next, .ref o_row, .int o_heard, .ref o_heardOf, .ref o_heardBars, .ref o_heardPlays, .int o_hushWho, .int o_hushSum, .long o_seed, .ref o_isKept, .ref o_kept])), (o_text, .inl (cI, 56, .inl o_text_v)), (o_readBar, .inl (cI, 16, .inl r1.2.2.2.2.2.1)), (o_readPlayer, .inl (cI, 24, .inl r1.2.2.2.2.2.2)), (o_now, .inl (cI, 32, .inl r9.1)), (o_price, .inl (cI, 6, .inl r9.2.1)), (o_breath, .inl (cI, 6, .inl r9.2.2.1)), (o_kind, .inl (cI, 6, .inl r9.2.2.2.1)), (o_looks, .inl (cI, 6, .inl r9.2.2.2.2)), (o_noise, .inl (cI, 8, .inl r12.1)), (o_repeat, .inl (cI, 8, .inl r12.2)), (o_isKept, .inl (cZ, 2, .inl (upd o_isKept_v (Int32.toNatClampNeg 0) (vp_nar .boolean 0))))] H := hP
          have hD : va_D A [(o_h, .inr (5, [.int r1.2.1, .int r1.2.2.1, .ref o_price, .ref o_breath, .ref o_kind, .ref o_looks, .ref o_noise, .ref o_repeat, .ref o_now, .ref o_readPlayer, .ref o_readBar, .int r1.2.1, .int r1.2.2.1, .ref o_text, .int o_length, .int r1.2.2.2.1, .int r1.2.2.2.2.1, .int 0, .int o_next, .ref o_row, .int o_heard, .ref o_heardOf, .ref o_heardBars, .ref o_heardPlays, .int o_hushWho, .int o_hushSum, .long o_seed, .ref o_isKept, .ref o_kept])), (o_text, .inl (cI, 56, .inl o_text_v)), (o_readBar, .inl (cI, 16, .inl r1.2.2.2.2.2.1)), (o_readPlayer, .inl (cI, 24, .inl r1.2.2.2.2.2.2)), (o_now, .inl (cI, 32, .inl r9.1)), (o_price, .inl (cI, 6, .inl r9.2.1)), (o_breath, .inl (cI, 6, .inl r9.2.2.1)), (o_kind, .inl (cI, 6, .inl r9.2.2.2.1)), (o_looks, .inl (cI, 6, .inl r9.2.2.2.2)), (o_noise, .inl (cI, 8, .inl r12.1)), (o_repeat, .inl (cI, 8, .inl r12.2)), (o_isKept, .inl (cZ, 2, .inl (upd o_isKept_v (Int32.toNatClampNeg 0) (vp_nar .boolean 0))))] := hD
          refine lv_aload_n hx hb dX5_concert_200 rfl (lv_at hl 0 rfl) ?_
          refine va_get (D := (dC, dI)) (ci := 5) (v := .ref o_isKept) (C := RX5) (T := TX5) (N := 29) hx hb hts hinX5 hown hK hP 0 rfl rfl 27 (by decide) w15 (fun _ h9 => h9) rfl dX5_concert_201 ?_
          refine lv_iconst (v := 1) hx hb dX5_concert_204 (by decide) ?_
          refine lv_iconst (v := 0) hx hb dX5_concert_205 (by decide) ?_
          refine va_zast hx hb hK hP hD hS 11 1 rfl rfl (n := 2) (f := (upd o_isKept_v (Int32.toNatClampNeg 0) (vp_nar .boolean 0))) (hg_in (n := 1) (N := 2) (show (1 : Int32) = nI 1 from rfl) (by omega) (by decide)) dX5_concert_206 (fun H locs hP hD hS => ?_)
          have hP : va_P (dC, dI) vwCl [(o_h, .inr (5, [.int r1.2.1, .int r1.2.2.1, .ref o_price, .ref o_breath, .ref o_kind, .ref o_looks, .ref o_noise, .ref o_repeat, .ref o_now, .ref o_readPlayer, .ref o_readBar, .int r1.2.1, .int r1.2.2.1, .ref o_text, .int o_length, .int r1.2.2.2.1, .int r1.2.2.2.2.1, .int 0, .int o_next, .ref o_row, .int o_heard, .ref o_heardOf, .ref o_heardBars, .ref o_heardPlays, .int o_hushWho, .int o_hushSum, .long o_seed, .ref o_isKept, .ref o_kept])), (o_text, .inl (cI, 56, .inl o_text_v)), (o_readBar, .inl (cI, 16, .inl r1.2.2.2.2.2.1)), (o_readPlayer, .inl (cI, 24, .inl r1.2.2.2.2.2.2)), (o_now, .inl (cI, 32, .inl r9.1)), (o_price, .inl (cI, 6, .inl r9.2.1)), (o_breath, .inl (cI, 6, .inl r9.2.2.1)), (o_kind, .inl (cI, 6, .inl r9.2.2.2.1)), (o_looks, .inl (cI, 6, .inl r9.2.2.2.2)), (o_noise, .inl (cI, 8, .inl r12.1)), (o_repeat, .inl (cI, 8, .inl r12.2)), (o_isKept, .inl (cZ, 2, .inl (upd (upd o_isKept_v (Int32.toNatClampNeg 0) (vp_nar .boolean 0)) (Int32.toNatClampNeg 1) (vp_nar .boolean 0))))] H := hP
          have hD : va_D A [(o_h, .inr (5, [.int r1.2.1, .int r1.2.2.1, .ref o_price, .ref o_breath, .ref o_kind, .ref o_looks, .ref o_noise, .ref o_repeat, .ref o_now, .ref o_readPlayer, .ref o_readBar, .int r1.2.1, .int r1.2.2.1, .ref o_text, .int o_length, .int r1.2.2.2.1, .int r1.2.2.2.2.1, .int 0, .int o_next, .ref o_row, .int o_heard, .ref o_heardOf, .ref o_heardBars, .ref o_heardPlays, .int o_hushWho, .int o_hushSum, .long o_seed, .ref o_isKept, .ref o_kept])), (o_text, .inl (cI, 56, .inl o_text_v)), (o_readBar, .inl (cI, 16, .inl r1.2.2.2.2.2.1)), (o_readPlayer, .inl (cI, 24, .inl r1.2.2.2.2.2.2)), (o_now, .inl (cI, 32, .inl r9.1)), (o_price, .inl (cI, 6, .inl r9.2.1)), (o_breath, .inl (cI, 6, .inl r9.2.2.1)), (o_kind, .inl (cI, 6, .inl r9.2.2.2.1)), (o_looks, .inl (cI, 6, .inl r9.2.2.2.2)), (o_noise, .inl (cI, 8, .inl r12.1)), (o_repeat, .inl (cI, 8, .inl r12.2)), (o_isKept, .inl (cZ, 2, .inl (upd (upd o_isKept_v (Int32.toNatClampNeg 0) (vp_nar .boolean 0)) (Int32.toNatClampNeg 1) (vp_nar .boolean 0))))] := hD
          refine lv_bipush (v := 10) hx hb dX5_concert_207 (by decide) ?_
          refine lv_aload_n hx hb dX5_concert_209 rfl (lv_at hl 0 rfl) ?_
          refine va_get (D := (dC, dI)) (ci := 5) (v := .int r1.2.1) (C := RX5) (T := TX5) (N := 29) hx hb hts hinX5 hown hK hP 0 rfl rfl 0 (by decide) w2 (fun _ h9 => h9) rfl dX5_concert_210 ?_
          refine lv_imul hx hb dX5_concert_213 ?_
          refine lv_aload_n hx hb dX5_concert_214 rfl (lv_at hl 0 rfl) ?_
          refine va_get (D := (dC, dI)) (ci := 5) (v := .int r1.2.2.1) (C := RX5) (T := TX5) (N := 29) hx hb hts hinX5 hown hK hP 0 rfl rfl 1 (by decide) w4 (fun _ h9 => h9) rfl dX5_concert_215 ?_
          refine lv_iadd hx hb dX5_concert_218 ?_
          subst hu
          exact hg_ri hx hb hr hlk rfl hP hD hS dX5_concert_219
        · intro k144 hk v144 hv w hw ih H locs ls hP hD hS hl
          have hw : w = b_X5_concert_144 r1 k144 v144 := by rw [hw, hv]; rfl
          unfold b_X5_concert_144 at hw
          have hkb : k144 + 0 < cb := hg_itn0 ecb (by omega) hk
          have hP : va_P (dC, dI) vwCl [(o_h, .inr (5, [.int r1.2.1, .int r1.2.2.1, .ref o_price, .ref o_breath, .ref o_kind, .ref o_looks, .ref o_noise, .ref o_repeat, .ref o_now, .ref o_readPlayer, .ref o_readBar, .int r1.2.1, .int r1.2.2.1, .ref o_text, .int o_length, .int r1.2.2.2.1, .int r1.2.2.2.2.1, .int o_acts, .int o_next, .ref o_row, .int o_heard, .ref o_heardOf, .ref o_heardBars, .ref o_heardPlays, .int o_hushWho, .int o_hushSum, .long o_seed, .ref o_isKept, .ref o_kept])), (o_text, .inl (cI, 56, .inl o_text_v)), (o_readBar, .inl (cI, 16, .inl r1.2.2.2.2.2.1)), (o_readPlayer, .inl (cI, 24, .inl r1.2.2.2.2.2.2)), (o_now, .inl (cI, 32, .inl r9.1)), (o_price, .inl (cI, 6, .inl r9.2.1)), (o_breath, .inl (cI, 6, .inl r9.2.2.1)), (o_kind, .inl (cI, 6, .inl r9.2.2.2.1)), (o_looks, .inl (cI, 6, .inl r9.2.2.2.2)), (o_noise, .inl (cI, 8, .inl v144.1)), (o_repeat, .inl (cI, 8, .inl v144.2)), (o_isKept, .inl (cZ, 2, .inl o_isKept_v))] H := hP
          have hD : va_D A [(o_h, .inr (5, [.int r1.2.1, .int r1.2.2.1, .ref o_price, .ref o_breath, .ref o_kind, .ref o_looks, .ref o_noise, .ref o_repeat, .ref o_now, .ref o_readPlayer, .ref o_readBar, .int r1.2.1, .int r1.2.2.1, .ref o_text, .int o_length, .int r1.2.2.2.1, .int r1.2.2.2.2.1, .int o_acts, .int o_next, .ref o_row, .int o_heard, .ref o_heardOf, .ref o_heardBars, .ref o_heardPlays, .int o_hushWho, .int o_hushSum, .long o_seed, .ref o_isKept, .ref o_kept])), (o_text, .inl (cI, 56, .inl o_text_v)), (o_readBar, .inl (cI, 16, .inl r1.2.2.2.2.2.1)), (o_readPlayer, .inl (cI, 24, .inl r1.2.2.2.2.2.2)), (o_now, .inl (cI, 32, .inl r9.1)), (o_price, .inl (cI, 6, .inl r9.2.1)), (o_breath, .inl (cI, 6, .inl r9.2.2.1)), (o_kind, .inl (cI, 6, .inl r9.2.2.2.1)), (o_looks, .inl (cI, 6, .inl r9.2.2.2.2)), (o_noise, .inl (cI, 8, .inl v144.1)), (o_repeat, .inl (cI, 8, .inl v144.2)), (o_isKept, .inl (cZ, 2, .inl o_isKept_v))] := hD
          have hl : lv_has ls 2 [(0, .ref o_h), (1, .int (nI k144))] := hl
          refine lv_iload_n hx hb dX5_concert_144 rfl (lv_at hl 1 rfl) ?_
          refine lv_aload_n hx hb dX5_concert_145 rfl (lv_at hl 0 rfl) ?_
          refine va_get (D := (dC, dI)) (ci := 5) (v := .int r1.2.2.1) (C := RX5) (T := TX5) (N := 29) hx hb hts hinX5 hown hK hP 0 rfl rfl 1 (by decide) w4 (fun _ h9 => h9) rfl dX5_concert_146 ?_
          refine lv_icmp_ge (tgt := 188) hx hb dX5_concert_149 (by decide) (fun c_149 => absurd c_149 (hg_lo1 hk)) (fun c_149 => ?_)
          refine lv_aload_n hx hb dX5_concert_152 rfl (lv_at hl 0 rfl) ?_
          refine va_get (D := (dC, dI)) (ci := 5) (v := .ref o_noise) (C := RX5) (T := TX5) (N := 29) hx hb hts hinX5 hown hK hP 0 rfl rfl 6 (by decide) w11 (fun _ h9 => h9) rfl dX5_concert_153 ?_
          refine lv_iload_n hx hb dX5_concert_156 rfl (lv_at hl 1 rfl) ?_
          refine lv_aload_n hx hb dX5_concert_157 rfl (lv_at hl 0 rfl) ?_
          refine va_get (D := (dC, dI)) (ci := 5) (v := .ref o_readBar) (C := RX5) (T := TX5) (N := 29) hx hb hts hinX5 hown hK hP 0 rfl rfl 10 (by decide) w12 (fun _ h9 => h9) rfl dX5_concert_158 ?_
          refine lv_iconst (v := 2) hx hb dX5_concert_161 (by decide) ?_
          refine lv_iload_n hx hb dX5_concert_162 rfl (lv_at hl 1 rfl) ?_
          refine lv_imul hx hb dX5_concert_163 ?_
          refine va_iald hx hb hK hP 2 0 rfl rfl (n := 16) (f := r1.2.2.2.2.2.1) (hg_in (n := (2 * k144)) (N := 16) (nx_mul (show (2 : Int32) = nI 2 from rfl) rfl) (by omega) (by decide)) dX5_concert_164 ?_
          obtain ⟨y10, ey10, hw⟩ := lxb_o hw
          refine lv_topi (fun z ez => ?_)
          obtain rfl : y10 = z := ey10.trans ez.symm
          refine va_iast hx hb hK hP hD hS 9 0 rfl rfl (n := 8) (f := v144.1) (hg_in (n := k144) (N := 8) rfl (by omega) (by decide)) dX5_concert_165 (fun H locs hP hD hS => ?_)
          have hP : va_P (dC, dI) vwCl [(o_h, .inr (5, [.int r1.2.1, .int r1.2.2.1, .ref o_price, .ref o_breath, .ref o_kind, .ref o_looks, .ref o_noise, .ref o_repeat, .ref o_now, .ref o_readPlayer, .ref o_readBar, .int r1.2.1, .int r1.2.2.1, .ref o_text, .int o_length, .int r1.2.2.2.1, .int r1.2.2.2.2.1, .int o_acts, .int o_next, .ref o_row, .int o_heard, .ref o_heardOf, .ref o_heardBars, .ref o_heardPlays, .int o_hushWho, .int o_hushSum, .long o_seed, .ref o_isKept, .ref o_kept])), (o_text, .inl (cI, 56, .inl o_text_v)), (o_readBar, .inl (cI, 16, .inl r1.2.2.2.2.2.1)), (o_readPlayer, .inl (cI, 24, .inl r1.2.2.2.2.2.2)), (o_now, .inl (cI, 32, .inl r9.1)), (o_price, .inl (cI, 6, .inl r9.2.1)), (o_breath, .inl (cI, 6, .inl r9.2.2.1)), (o_kind, .inl (cI, 6, .inl r9.2.2.2.1)), (o_looks, .inl (cI, 6, .inl r9.2.2.2.2)), (o_noise, .inl (cI, 8, .inl (upd v144.1 (Int32.toNatClampNeg (nI k144)) y10))), (o_repeat, .inl (cI, 8, .inl v144.2)), (o_isKept, .inl (cZ, 2, .inl o_isKept_v))] H := hP
          have hD : va_D A [(o_h, .inr (5, [.int r1.2.1, .int r1.2.2.1, .ref o_price, .ref o_breath, .ref o_kind, .ref o_looks, .ref o_noise, .ref o_repeat, .ref o_now, .ref o_readPlayer, .ref o_readBar, .int r1.2.1, .int r1.2.2.1, .ref o_text, .int o_length, .int r1.2.2.2.1, .int r1.2.2.2.2.1, .int o_acts, .int o_next, .ref o_row, .int o_heard, .ref o_heardOf, .ref o_heardBars, .ref o_heardPlays, .int o_hushWho, .int o_hushSum, .long o_seed, .ref o_isKept, .ref o_kept])), (o_text, .inl (cI, 56, .inl o_text_v)), (o_readBar, .inl (cI, 16, .inl r1.2.2.2.2.2.1)), (o_readPlayer, .inl (cI, 24, .inl r1.2.2.2.2.2.2)), (o_now, .inl (cI, 32, .inl r9.1)), (o_price, .inl (cI, 6, .inl r9.2.1)), (o_breath, .inl (cI, 6, .inl r9.2.2.1)), (o_kind, .inl (cI, 6, .inl r9.2.2.2.1)), (o_looks, .inl (cI, 6, .inl r9.2.2.2.2)), (o_noise, .inl (cI, 8, .inl (upd v144.1 (Int32.toNatClampNeg (nI k144)) y10))), (o_repeat, .inl (cI, 8, .inl v144.2)), (o_isKept, .inl (cZ, 2, .inl o_isKept_v))] := hD
          refine lv_aload_n hx hb dX5_concert_166 rfl (lv_at hl 0 rfl) ?_
          refine va_get (D := (dC, dI)) (ci := 5) (v := .ref o_repeat) (C := RX5) (T := TX5) (N := 29) hx hb hts hinX5 hown hK hP 0 rfl rfl 7 (by decide) w13 (fun _ h9 => h9) rfl dX5_concert_167 ?_
          refine lv_iload_n hx hb dX5_concert_170 rfl (lv_at hl 1 rfl) ?_
          refine lv_aload_n hx hb dX5_concert_171 rfl (lv_at hl 0 rfl) ?_
          refine va_get (D := (dC, dI)) (ci := 5) (v := .ref o_readBar) (C := RX5) (T := TX5) (N := 29) hx hb hts hinX5 hown hK hP 0 rfl rfl 10 (by decide) w12 (fun _ h9 => h9) rfl dX5_concert_172 ?_
          refine lv_iconst (v := 2) hx hb dX5_concert_175 (by decide) ?_
          refine lv_iload_n hx hb dX5_concert_176 rfl (lv_at hl 1 rfl) ?_
          refine lv_imul hx hb dX5_concert_177 ?_
          refine lv_iconst (v := 1) hx hb dX5_concert_178 (by decide) ?_
          refine lv_iadd hx hb dX5_concert_179 ?_
          refine va_iald hx hb hK hP 2 0 rfl rfl (n := 16) (f := r1.2.2.2.2.2.1) (hg_in (n := ((2 * k144) + 1)) (N := 16) (nx_add (nx_mul (show (2 : Int32) = nI 2 from rfl) rfl) (show (1 : Int32) = nI 1 from rfl)) (by omega) (by decide)) dX5_concert_180 ?_
          obtain ⟨y11, ey11, hw⟩ := lxb_o hw
          refine lv_topi (fun z ez => ?_)
          obtain rfl : y11 = z := ey11.trans ez.symm
          refine va_iast hx hb hK hP hD hS 10 0 rfl rfl (n := 8) (f := v144.2) (hg_in (n := k144) (N := 8) rfl (by omega) (by decide)) dX5_concert_181 (fun H locs hP hD hS => ?_)
          have hP : va_P (dC, dI) vwCl [(o_h, .inr (5, [.int r1.2.1, .int r1.2.2.1, .ref o_price, .ref o_breath, .ref o_kind, .ref o_looks, .ref o_noise, .ref o_repeat, .ref o_now, .ref o_readPlayer, .ref o_readBar, .int r1.2.1, .int r1.2.2.1, .ref o_text, .int o_length, .int r1.2.2.2.1, .int r1.2.2.2.2.1, .int o_acts, .int o_next, .ref o_row, .int o_heard, .ref o_heardOf, .ref o_heardBars, .ref o_heardPlays, .int o_hushWho, .int o_hushSum, .long o_seed, .ref o_isKept, .ref o_kept])), (o_text, .inl (cI, 56, .inl o_text_v)), (o_readBar, .inl (cI, 16, .inl r1.2.2.2.2.2.1)), (o_readPlayer, .inl (cI, 24, .inl r1.2.2.2.2.2.2)), (o_now, .inl (cI, 32, .inl r9.1)), (o_price, .inl (cI, 6, .inl r9.2.1)), (o_breath, .inl (cI, 6, .inl r9.2.2.1)), (o_kind, .inl (cI, 6, .inl r9.2.2.2.1)), (o_looks, .inl (cI, 6, .inl r9.2.2.2.2)), (o_noise, .inl (cI, 8, .inl (upd v144.1 (Int32.toNatClampNeg (nI k144)) y10))), (o_repeat, .inl (cI, 8, .inl (upd v144.2 (Int32.toNatClampNeg (nI k144)) y11))), (o_isKept, .inl (cZ, 2, .inl o_isKept_v))] H := hP
          have hD : va_D A [(o_h, .inr (5, [.int r1.2.1, .int r1.2.2.1, .ref o_price, .ref o_breath, .ref o_kind, .ref o_looks, .ref o_noise, .ref o_repeat, .ref o_now, .ref o_readPlayer, .ref o_readBar, .int r1.2.1, .int r1.2.2.1, .ref o_text, .int o_length, .int r1.2.2.2.1, .int r1.2.2.2.2.1, .int o_acts, .int o_next, .ref o_row, .int o_heard, .ref o_heardOf, .ref o_heardBars, .ref o_heardPlays, .int o_hushWho, .int o_hushSum, .long o_seed, .ref o_isKept, .ref o_kept])), (o_text, .inl (cI, 56, .inl o_text_v)), (o_readBar, .inl (cI, 16, .inl r1.2.2.2.2.2.1)), (o_readPlayer, .inl (cI, 24, .inl r1.2.2.2.2.2.2)), (o_now, .inl (cI, 32, .inl r9.1)), (o_price, .inl (cI, 6, .inl r9.2.1)), (o_breath, .inl (cI, 6, .inl r9.2.2.1)), (o_kind, .inl (cI, 6, .inl r9.2.2.2.1)), (o_looks, .inl (cI, 6, .inl r9.2.2.2.2)), (o_noise, .inl (cI, 8, .inl (upd v144.1 (Int32.toNatClampNeg (nI k144)) y10))), (o_repeat, .inl (cI, 8, .inl (upd v144.2 (Int32.toNatClampNeg (nI k144)) y11))), (o_isKept, .inl (cZ, 2, .inl o_isKept_v))] := hD
          refine lv_iinc (v := nI (k144 + 1)) (lv' := [(1, .int (nI (k144 + 1))), (0, .ref o_h)]) hx hb dX5_concert_182 hl (k := 1) rfl (nI_1 k144) (by decide) rfl (fun ls hl => ?_)
          refine lv_goto (tgt := 144) hx hb dX5_concert_185 (by decide) ?_
          subst hw
          exact ih _ _ _ hP hD hS (lv_sub hl [1, 0] rfl)
      · intro k51 hk v51 hv w hw ih H locs ls hP hD hS hl
        have hw : w = b_X5_concert_51 r1 k51 v51 := by rw [hw, hv]; rfl
        unfold b_X5_concert_51 at hw
        have hkb : k51 + 0 < ca := hg_itn0 eca (by omega) hk
        have hP : va_P (dC, dI) vwCl [(o_h, .inr (5, [.int r1.2.1, .int r1.2.2.1, .ref o_price, .ref o_breath, .ref o_kind, .ref o_looks, .ref o_noise, .ref o_repeat, .ref o_now, .ref o_readPlayer, .ref o_readBar, .int r1.2.1, .int r1.2.2.1, .ref o_text, .int o_length, .int r1.2.2.2.1, .int r1.2.2.2.2.1, .int o_acts, .int o_next, .ref o_row, .int o_heard, .ref o_heardOf, .ref o_heardBars, .ref o_heardPlays, .int o_hushWho, .int o_hushSum, .long o_seed, .ref o_isKept, .ref o_kept])), (o_text, .inl (cI, 56, .inl o_text_v)), (o_readBar, .inl (cI, 16, .inl r1.2.2.2.2.2.1)), (o_readPlayer, .inl (cI, 24, .inl r1.2.2.2.2.2.2)), (o_now, .inl (cI, 32, .inl v51.1)), (o_price, .inl (cI, 6, .inl v51.2.1)), (o_breath, .inl (cI, 6, .inl v51.2.2.1)), (o_kind, .inl (cI, 6, .inl v51.2.2.2.1)), (o_looks, .inl (cI, 6, .inl v51.2.2.2.2)), (o_noise, .inl (cI, 8, .inl o_noise_v)), (o_repeat, .inl (cI, 8, .inl o_repeat_v)), (o_isKept, .inl (cZ, 2, .inl o_isKept_v))] H := hP
        have hD : va_D A [(o_h, .inr (5, [.int r1.2.1, .int r1.2.2.1, .ref o_price, .ref o_breath, .ref o_kind, .ref o_looks, .ref o_noise, .ref o_repeat, .ref o_now, .ref o_readPlayer, .ref o_readBar, .int r1.2.1, .int r1.2.2.1, .ref o_text, .int o_length, .int r1.2.2.2.1, .int r1.2.2.2.2.1, .int o_acts, .int o_next, .ref o_row, .int o_heard, .ref o_heardOf, .ref o_heardBars, .ref o_heardPlays, .int o_hushWho, .int o_hushSum, .long o_seed, .ref o_isKept, .ref o_kept])), (o_text, .inl (cI, 56, .inl o_text_v)), (o_readBar, .inl (cI, 16, .inl r1.2.2.2.2.2.1)), (o_readPlayer, .inl (cI, 24, .inl r1.2.2.2.2.2.2)), (o_now, .inl (cI, 32, .inl v51.1)), (o_price, .inl (cI, 6, .inl v51.2.1)), (o_breath, .inl (cI, 6, .inl v51.2.2.1)), (o_kind, .inl (cI, 6, .inl v51.2.2.2.1)), (o_looks, .inl (cI, 6, .inl v51.2.2.2.2)), (o_noise, .inl (cI, 8, .inl o_noise_v)), (o_repeat, .inl (cI, 8, .inl o_repeat_v)), (o_isKept, .inl (cZ, 2, .inl o_isKept_v))] := hD
        have hl : lv_has ls 2 [(0, .ref o_h), (1, .int (nI k51))] := hl
        refine lv_iload_n hx hb dX5_concert_51 rfl (lv_at hl 1 rfl) ?_
        refine lv_aload_n hx hb dX5_concert_52 rfl (lv_at hl 0 rfl) ?_
        refine va_get (D := (dC, dI)) (ci := 5) (v := .int r1.2.1) (C := RX5) (T := TX5) (N := 29) hx hb hts hinX5 hown hK hP 0 rfl rfl 0 (by decide) w2 (fun _ h9 => h9) rfl dX5_concert_53 ?_
        refine lv_icmp_ge (tgt := 142) hx hb dX5_concert_56 (by decide) (fun c_56 => absurd c_56 (hg_lo1 hk)) (fun c_56 => ?_)
        refine lv_aload_n hx hb dX5_concert_59 rfl (lv_at hl 0 rfl) ?_
        refine va_get (D := (dC, dI)) (ci := 5) (v := .ref o_price) (C := RX5) (T := TX5) (N := 29) hx hb hts hinX5 hown hK hP 0 rfl rfl 2 (by decide) w6 (fun _ h9 => h9) rfl dX5_concert_60 ?_
        refine lv_iload_n hx hb dX5_concert_63 rfl (lv_at hl 1 rfl) ?_
        refine lv_aload_n hx hb dX5_concert_64 rfl (lv_at hl 0 rfl) ?_
        refine va_get (D := (dC, dI)) (ci := 5) (v := .ref o_readPlayer) (C := RX5) (T := TX5) (N := 29) hx hb hts hinX5 hown hK hP 0 rfl rfl 9 (by decide) w7 (fun _ h9 => h9) rfl dX5_concert_65 ?_
        refine lv_iconst (v := 4) hx hb dX5_concert_68 (by decide) ?_
        refine lv_iload_n hx hb dX5_concert_69 rfl (lv_at hl 1 rfl) ?_
        refine lv_imul hx hb dX5_concert_70 ?_
        refine va_iald hx hb hK hP 3 0 rfl rfl (n := 24) (f := r1.2.2.2.2.2.2) (hg_in (n := (4 * k51)) (N := 24) (nx_mul (show (4 : Int32) = nI 4 from rfl) rfl) (by omega) (by decide)) dX5_concert_71 ?_
        obtain ⟨y4, ey4, hw⟩ := lxb_o hw
        refine lv_topi (fun z ez => ?_)
        obtain rfl : y4 = z := ey4.trans ez.symm
        refine va_iast hx hb hK hP hD hS 5 0 rfl rfl (n := 6) (f := v51.2.1) (hg_in (n := k51) (N := 6) rfl (by omega) (by decide)) dX5_concert_72 (fun H locs hP hD hS => ?_)
        have hP : va_P (dC, dI) vwCl [(o_h, .inr (5, [.int r1.2.1, .int r1.2.2.1, .ref o_price, .ref o_breath, .ref o_kind, .ref o_looks, .ref o_noise, .ref o_repeat, .ref o_now, .ref o_readPlayer, .ref o_readBar, .int r1.2.1, .int r1.2.2.1, .ref o_text, .int o_length, .int r1.2.2.2.1, .int r1.2.2.2.2.1, .int o_acts, .int o_next, .ref o_row, .int o_heard, .ref o_heardOf, .ref o_heardBars, .ref o_heardPlays, .int o_hushWho, .int o_hushSum, .long o_seed, .ref o_isKept, .ref o_kept])), (o_text, .inl (cI, 56, .inl o_text_v)), (o_readBar, .inl (cI, 16, .inl r1.2.2.2.2.2.1)), (o_readPlayer, .inl (cI, 24, .inl r1.2.2.2.2.2.2)), (o_now, .inl (cI, 32, .inl v51.1)), (o_price, .inl (cI, 6, .inl (upd v51.2.1 (Int32.toNatClampNeg (nI k51)) y4))), (o_breath, .inl (cI, 6, .inl v51.2.2.1)), (o_kind, .inl (cI, 6, .inl v51.2.2.2.1)), (o_looks, .inl (cI, 6, .inl v51.2.2.2.2)), (o_noise, .inl (cI, 8, .inl o_noise_v)), (o_repeat, .inl (cI, 8, .inl o_repeat_v)), (o_isKept, .inl (cZ, 2, .inl o_isKept_v))] H := hP
        have hD : va_D A [(o_h, .inr (5, [.int r1.2.1, .int r1.2.2.1, .ref o_price, .ref o_breath, .ref o_kind, .ref o_looks, .ref o_noise, .ref o_repeat, .ref o_now, .ref o_readPlayer, .ref o_readBar, .int r1.2.1, .int r1.2.2.1, .ref o_text, .int o_length, .int r1.2.2.2.1, .int r1.2.2.2.2.1, .int o_acts, .int o_next, .ref o_row, .int o_heard, .ref o_heardOf, .ref o_heardBars, .ref o_heardPlays, .int o_hushWho, .int o_hushSum, .long o_seed, .ref o_isKept, .ref o_kept])), (o_text, .inl (cI, 56, .inl o_text_v)), (o_readBar, .inl (cI, 16, .inl r1.2.2.2.2.2.1)), (o_readPlayer, .inl (cI, 24, .inl r1.2.2.2.2.2.2)), (o_now, .inl (cI, 32, .inl v51.1)), (o_price, .inl (cI, 6, .inl (upd v51.2.1 (Int32.toNatClampNeg (nI k51)) y4))), (o_breath, .inl (cI, 6, .inl v51.2.2.1)), (o_kind, .inl (cI, 6, .inl v51.2.2.2.1)), (o_looks, .inl (cI, 6, .inl v51.2.2.2.2)), (o_noise, .inl (cI, 8, .inl o_noise_v)), (o_repeat, .inl (cI, 8, .inl o_repeat_v)), (o_isKept, .inl (cZ, 2, .inl o_isKept_v))] := hD
        refine lv_aload_n hx hb dX5_concert_73 rfl (lv_at hl 0 rfl) ?_
        refine va_get (D := (dC, dI)) (ci := 5) (v := .ref o_breath) (C := RX5) (T := TX5) (N := 29) hx hb hts hinX5 hown hK hP 0 rfl rfl 3 (by decide) w8 (fun _ h9 => h9) rfl dX5_concert_74 ?_
        refine lv_iload_n hx hb dX5_concert_77 rfl (lv_at hl 1 rfl) ?_
        refine lv_aload_n hx hb dX5_concert_78 rfl (lv_at hl 0 rfl) ?_
        refine va_get (D := (dC, dI)) (ci := 5) (v := .ref o_readPlayer) (C := RX5) (T := TX5) (N := 29) hx hb hts hinX5 hown hK hP 0 rfl rfl 9 (by decide) w7 (fun _ h9 => h9) rfl dX5_concert_79 ?_
        refine lv_iconst (v := 4) hx hb dX5_concert_82 (by decide) ?_
        refine lv_iload_n hx hb dX5_concert_83 rfl (lv_at hl 1 rfl) ?_
        refine lv_imul hx hb dX5_concert_84 ?_
        refine lv_iconst (v := 1) hx hb dX5_concert_85 (by decide) ?_
        refine lv_iadd hx hb dX5_concert_86 ?_
        refine va_iald hx hb hK hP 3 0 rfl rfl (n := 24) (f := r1.2.2.2.2.2.2) (hg_in (n := ((4 * k51) + 1)) (N := 24) (nx_add (nx_mul (show (4 : Int32) = nI 4 from rfl) rfl) (show (1 : Int32) = nI 1 from rfl)) (by omega) (by decide)) dX5_concert_87 ?_
        obtain ⟨y5, ey5, hw⟩ := lxb_o hw
        refine lv_topi (fun z ez => ?_)
        obtain rfl : y5 = z := ey5.trans ez.symm
        refine va_iast hx hb hK hP hD hS 6 0 rfl rfl (n := 6) (f := v51.2.2.1) (hg_in (n := k51) (N := 6) rfl (by omega) (by decide)) dX5_concert_88 (fun H locs hP hD hS => ?_)
        have hP : va_P (dC, dI) vwCl [(o_h, .inr (5, [.int r1.2.1, .int r1.2.2.1, .ref o_price, .ref o_breath, .ref o_kind, .ref o_looks, .ref o_noise, .ref o_repeat, .ref o_now, .ref o_readPlayer, .ref o_readBar, .int r1.2.1, .int r1.2.2.1, .ref o_text, .int o_length, .int r1.2.2.2.1, .int r1.2.2.2.2.1, .int o_acts, .int o_next, .ref o_row, .int o_heard, .ref o_heardOf, .ref o_heardBars, .ref o_heardPlays, .int o_hushWho, .int o_hushSum, .long o_seed, .ref o_isKept, .ref o_kept])), (o_text, .inl (cI, 56, .inl o_text_v)), (o_readBar, .inl (cI, 16, .inl r1.2.2.2.2.2.1)), (o_readPlayer, .inl (cI, 24, .inl r1.2.2.2.2.2.2)), (o_now, .inl (cI, 32, .inl v51.1)), (o_price, .inl (cI, 6, .inl (upd v51.2.1 (Int32.toNatClampNeg (nI k51)) y4))), (o_breath, .inl (cI, 6, .inl (upd v51.2.2.1 (Int32.toNatClampNeg (nI k51)) y5))), (o_kind, .inl (cI, 6, .inl v51.2.2.2.1)), (o_looks, .inl (cI, 6, .inl v51.2.2.2.2)), (o_noise, .inl (cI, 8, .inl o_noise_v)), (o_repeat, .inl (cI, 8, .inl o_repeat_v)), (o_isKept, .inl (cZ, 2, .inl o_isKept_v))] H := hP
        have hD : va_D A [(o_h, .inr (5, [.int r1.2.1, .int r1.2.2.1, .ref o_price, .ref o_breath, .ref o_kind, .ref o_looks, .ref o_noise, .ref o_repeat, .ref o_now, .ref o_readPlayer, .ref o_readBar, .int r1.2.1, .int r1.2.2.1, .ref o_text, .int o_length, .int r1.2.2.2.1, .int r1.2.2.2.2.1, .int o_acts, .int o_next, .ref o_row, .int o_heard, .ref o_heardOf, .ref o_heardBars, .ref o_heardPlays, .int o_hushWho, .int o_hushSum, .long o_seed, .ref o_isKept, .ref o_kept])), (o_text, .inl (cI, 56, .inl o_text_v)), (o_readBar, .inl (cI, 16, .inl r1.2.2.2.2.2.1)), (o_readPlayer, .inl (cI, 24, .inl r1.2.2.2.2.2.2)), (o_now, .inl (cI, 32, .inl v51.1)), (o_price, .inl (cI, 6, .inl (upd v51.2.1 (Int32.toNatClampNeg (nI k51)) y4))), (o_breath, .inl (cI, 6, .inl (upd v51.2.2.1 (Int32.toNatClampNeg (nI k51)) y5))), (o_kind, .inl (cI, 6, .inl v51.2.2.2.1)), (o_looks, .inl (cI, 6, .inl v51.2.2.2.2)), (o_noise, .inl (cI, 8, .inl o_noise_v)), (o_repeat, .inl (cI, 8, .inl o_repeat_v)), (o_isKept, .inl (cZ, 2, .inl o_isKept_v))] := hD
        refine lv_aload_n hx hb dX5_concert_89 rfl (lv_at hl 0 rfl) ?_
        refine va_get (D := (dC, dI)) (ci := 5) (v := .ref o_kind) (C := RX5) (T := TX5) (N := 29) hx hb hts hinX5 hown hK hP 0 rfl rfl 4 (by decide) w9 (fun _ h9 => h9) rfl dX5_concert_90 ?_
        refine lv_iload_n hx hb dX5_concert_93 rfl (lv_at hl 1 rfl) ?_
        refine lv_aload_n hx hb dX5_concert_94 rfl (lv_at hl 0 rfl) ?_
        refine va_get (D := (dC, dI)) (ci := 5) (v := .ref o_readPlayer) (C := RX5) (T := TX5) (N := 29) hx hb hts hinX5 hown hK hP 0 rfl rfl 9 (by decide) w7 (fun _ h9 => h9) rfl dX5_concert_95 ?_
        refine lv_iconst (v := 4) hx hb dX5_concert_98 (by decide) ?_
        refine lv_iload_n hx hb dX5_concert_99 rfl (lv_at hl 1 rfl) ?_
        refine lv_imul hx hb dX5_concert_100 ?_
        refine lv_iconst (v := 2) hx hb dX5_concert_101 (by decide) ?_
        refine lv_iadd hx hb dX5_concert_102 ?_
        refine va_iald hx hb hK hP 3 0 rfl rfl (n := 24) (f := r1.2.2.2.2.2.2) (hg_in (n := ((4 * k51) + 2)) (N := 24) (nx_add (nx_mul (show (4 : Int32) = nI 4 from rfl) rfl) (show (2 : Int32) = nI 2 from rfl)) (by omega) (by decide)) dX5_concert_103 ?_
        obtain ⟨y6, ey6, hw⟩ := lxb_o hw
        refine lv_topi (fun z ez => ?_)
        obtain rfl : y6 = z := ey6.trans ez.symm
        refine va_iast hx hb hK hP hD hS 7 0 rfl rfl (n := 6) (f := v51.2.2.2.1) (hg_in (n := k51) (N := 6) rfl (by omega) (by decide)) dX5_concert_104 (fun H locs hP hD hS => ?_)
        have hP : va_P (dC, dI) vwCl [(o_h, .inr (5, [.int r1.2.1, .int r1.2.2.1, .ref o_price, .ref o_breath, .ref o_kind, .ref o_looks, .ref o_noise, .ref o_repeat, .ref o_now, .ref o_readPlayer, .ref o_readBar, .int r1.2.1, .int r1.2.2.1, .ref o_text, .int o_length, .int r1.2.2.2.1, .int r1.2.2.2.2.1, .int o_acts, .int o_next, .ref o_row, .int o_heard, .ref o_heardOf, .ref o_heardBars, .ref o_heardPlays, .int o_hushWho, .int o_hushSum, .long o_seed, .ref o_isKept, .ref o_kept])), (o_text, .inl (cI, 56, .inl o_text_v)), (o_readBar, .inl (cI, 16, .inl r1.2.2.2.2.2.1)), (o_readPlayer, .inl (cI, 24, .inl r1.2.2.2.2.2.2)), (o_now, .inl (cI, 32, .inl v51.1)), (o_price, .inl (cI, 6, .inl (upd v51.2.1 (Int32.toNatClampNeg (nI k51)) y4))), (o_breath, .inl (cI, 6, .inl (upd v51.2.2.1 (Int32.toNatClampNeg (nI k51)) y5))), (o_kind, .inl (cI, 6, .inl (upd v51.2.2.2.1 (Int32.toNatClampNeg (nI k51)) y6))), (o_looks, .inl (cI, 6, .inl v51.2.2.2.2)), (o_noise, .inl (cI, 8, .inl o_noise_v)), (o_repeat, .inl (cI, 8, .inl o_repeat_v)), (o_isKept, .inl (cZ, 2, .inl o_isKept_v))] H := hP
        have hD : va_D A [(o_h, .inr (5, [.int r1.2.1, .int r1.2.2.1, .ref o_price, .ref o_breath, .ref o_kind, .ref o_looks, .ref o_noise, .ref o_repeat, .ref o_now, .ref o_readPlayer, .ref o_readBar, .int r1.2.1, .int r1.2.2.1, .ref o_text, .int o_length, .int r1.2.2.2.1, .int r1.2.2.2.2.1, .int o_acts, .int o_next, .ref o_row, .int o_heard, .ref o_heardOf, .ref o_heardBars, .ref o_heardPlays, .int o_hushWho, .int o_hushSum, .long o_seed, .ref o_isKept, .ref o_kept])), (o_text, .inl (cI, 56, .inl o_text_v)), (o_readBar, .inl (cI, 16, .inl r1.2.2.2.2.2.1)), (o_readPlayer, .inl (cI, 24, .inl r1.2.2.2.2.2.2)), (o_now, .inl (cI, 32, .inl v51.1)), (o_price, .inl (cI, 6, .inl (upd v51.2.1 (Int32.toNatClampNeg (nI k51)) y4))), (o_breath, .inl (cI, 6, .inl (upd v51.2.2.1 (Int32.toNatClampNeg (nI k51)) y5))), (o_kind, .inl (cI, 6, .inl (upd v51.2.2.2.1 (Int32.toNatClampNeg (nI k51)) y6))), (o_looks, .inl (cI, 6, .inl v51.2.2.2.2)), (o_noise, .inl (cI, 8, .inl o_noise_v)), (o_repeat, .inl (cI, 8, .inl o_repeat_v)), (o_isKept, .inl (cZ, 2, .inl o_isKept_v))] := hD
        refine lv_aload_n hx hb dX5_concert_105 rfl (lv_at hl 0 rfl) ?_
        refine va_get (D := (dC, dI)) (ci := 5) (v := .ref o_looks) (C := RX5) (T := TX5) (N := 29) hx hb hts hinX5 hown hK hP 0 rfl rfl 5 (by decide) w10 (fun _ h9 => h9) rfl dX5_concert_106 ?_
        refine lv_iload_n hx hb dX5_concert_109 rfl (lv_at hl 1 rfl) ?_
        refine lv_aload_n hx hb dX5_concert_110 rfl (lv_at hl 0 rfl) ?_
        refine va_get (D := (dC, dI)) (ci := 5) (v := .ref o_readPlayer) (C := RX5) (T := TX5) (N := 29) hx hb hts hinX5 hown hK hP 0 rfl rfl 9 (by decide) w7 (fun _ h9 => h9) rfl dX5_concert_111 ?_
        refine lv_iconst (v := 4) hx hb dX5_concert_114 (by decide) ?_
        refine lv_iload_n hx hb dX5_concert_115 rfl (lv_at hl 1 rfl) ?_
        refine lv_imul hx hb dX5_concert_116 ?_
        refine lv_iconst (v := 3) hx hb dX5_concert_117 (by decide) ?_
        refine lv_iadd hx hb dX5_concert_118 ?_
        refine va_iald hx hb hK hP 3 0 rfl rfl (n := 24) (f := r1.2.2.2.2.2.2) (hg_in (n := ((4 * k51) + 3)) (N := 24) (nx_add (nx_mul (show (4 : Int32) = nI 4 from rfl) rfl) (show (3 : Int32) = nI 3 from rfl)) (by omega) (by decide)) dX5_concert_119 ?_
        obtain ⟨y7, ey7, hw⟩ := lxb_o hw
        refine lv_topi (fun z ez => ?_)
        obtain rfl : y7 = z := ey7.trans ez.symm
        refine va_iast hx hb hK hP hD hS 8 0 rfl rfl (n := 6) (f := v51.2.2.2.2) (hg_in (n := k51) (N := 6) rfl (by omega) (by decide)) dX5_concert_120 (fun H locs hP hD hS => ?_)
        have hP : va_P (dC, dI) vwCl [(o_h, .inr (5, [.int r1.2.1, .int r1.2.2.1, .ref o_price, .ref o_breath, .ref o_kind, .ref o_looks, .ref o_noise, .ref o_repeat, .ref o_now, .ref o_readPlayer, .ref o_readBar, .int r1.2.1, .int r1.2.2.1, .ref o_text, .int o_length, .int r1.2.2.2.1, .int r1.2.2.2.2.1, .int o_acts, .int o_next, .ref o_row, .int o_heard, .ref o_heardOf, .ref o_heardBars, .ref o_heardPlays, .int o_hushWho, .int o_hushSum, .long o_seed, .ref o_isKept, .ref o_kept])), (o_text, .inl (cI, 56, .inl o_text_v)), (o_readBar, .inl (cI, 16, .inl r1.2.2.2.2.2.1)), (o_readPlayer, .inl (cI, 24, .inl r1.2.2.2.2.2.2)), (o_now, .inl (cI, 32, .inl v51.1)), (o_price, .inl (cI, 6, .inl (upd v51.2.1 (Int32.toNatClampNeg (nI k51)) y4))), (o_breath, .inl (cI, 6, .inl (upd v51.2.2.1 (Int32.toNatClampNeg (nI k51)) y5))), (o_kind, .inl (cI, 6, .inl (upd v51.2.2.2.1 (Int32.toNatClampNeg (nI k51)) y6))), (o_looks, .inl (cI, 6, .inl (upd v51.2.2.2.2 (Int32.toNatClampNeg (nI k51)) y7))), (o_noise, .inl (cI, 8, .inl o_noise_v)), (o_repeat, .inl (cI, 8, .inl o_repeat_v)), (o_isKept, .inl (cZ, 2, .inl o_isKept_v))] H := hP
        have hD : va_D A [(o_h, .inr (5, [.int r1.2.1, .int r1.2.2.1, .ref o_price, .ref o_breath, .ref o_kind, .ref o_looks, .ref o_noise, .ref o_repeat, .ref o_now, .ref o_readPlayer, .ref o_readBar, .int r1.2.1, .int r1.2.2.1, .ref o_text, .int o_length, .int r1.2.2.2.1, .int r1.2.2.2.2.1, .int o_acts, .int o_next, .ref o_row, .int o_heard, .ref o_heardOf, .ref o_heardBars, .ref o_heardPlays, .int o_hushWho, .int o_hushSum, .long o_seed, .ref o_isKept, .ref o_kept])), (o_text, .inl (cI, 56, .inl o_text_v)), (o_readBar, .inl (cI, 16, .inl r1.2.2.2.2.2.1)), (o_readPlayer, .inl (cI, 24, .inl r1.2.2.2.2.2.2)), (o_now, .inl (cI, 32, .inl v51.1)), (o_price, .inl (cI, 6, .inl (upd v51.2.1 (Int32.toNatClampNeg (nI k51)) y4))), (o_breath, .inl (cI, 6, .inl (upd v51.2.2.1 (Int32.toNatClampNeg (nI k51)) y5))), (o_kind, .inl (cI, 6, .inl (upd v51.2.2.2.1 (Int32.toNatClampNeg (nI k51)) y6))), (o_looks, .inl (cI, 6, .inl (upd v51.2.2.2.2 (Int32.toNatClampNeg (nI k51)) y7))), (o_noise, .inl (cI, 8, .inl o_noise_v)), (o_repeat, .inl (cI, 8, .inl o_repeat_v)), (o_isKept, .inl (cZ, 2, .inl o_isKept_v))] := hD
        refine lv_aload_n hx hb dX5_concert_121 rfl (lv_at hl 0 rfl) ?_
        refine va_get (D := (dC, dI)) (ci := 5) (v := .ref o_now) (C := RX5) (T := TX5) (N := 29) hx hb hts hinX5 hown hK hP 0 rfl rfl 8 (by decide) w5 (fun _ h9 => h9) rfl dX5_concert_122 ?_
        refine lv_bipush (v := 6) hx hb dX5_concert_125 (by decide) ?_
        refine lv_iload_n hx hb dX5_concert_127 rfl (lv_at hl 1 rfl) ?_
        refine lv_iadd hx hb dX5_concert_128 ?_
        refine lv_aload_n hx hb dX5_concert_129 rfl (lv_at hl 0 rfl) ?_
        refine va_get (D := (dC, dI)) (ci := 5) (v := .ref o_breath) (C := RX5) (T := TX5) (N := 29) hx hb hts hinX5 hown hK hP 0 rfl rfl 3 (by decide) w8 (fun _ h9 => h9) rfl dX5_concert_130 ?_
        refine lv_iload_n hx hb dX5_concert_133 rfl (lv_at hl 1 rfl) ?_
        refine va_iald hx hb hK hP 6 0 rfl rfl (n := 6) (f := (upd v51.2.2.1 (Int32.toNatClampNeg (nI k51)) y5)) (hg_in (n := k51) (N := 6) rfl (by omega) (by decide)) dX5_concert_134 ?_
        obtain ⟨y8, ey8, hw⟩ := lxb_o hw
        refine lv_topi (fun z ez => ?_)
        obtain rfl : y8 = z := ey8.trans ez.symm
        refine va_iast hx hb hK hP hD hS 4 0 rfl rfl (n := 32) (f := v51.1) (hg_in (n := (6 + k51)) (N := 32) (nx_add (show (6 : Int32) = nI 6 from rfl) rfl) (by omega) (by decide)) dX5_concert_135 (fun H locs hP hD hS => ?_)
        have hP : va_P (dC, dI) vwCl [(o_h, .inr (5, [.int r1.2.1, .int r1.2.2.1, .ref o_price, .ref o_breath, .ref o_kind, .ref o_looks, .ref o_noise, .ref o_repeat, .ref o_now, .ref o_readPlayer, .ref o_readBar, .int r1.2.1, .int r1.2.2.1, .ref o_text, .int o_length, .int r1.2.2.2.1, .int r1.2.2.2.2.1, .int o_acts, .int o_next, .ref o_row, .int o_heard, .ref o_heardOf, .ref o_heardBars, .ref o_heardPlays, .int o_hushWho, .int o_hushSum, .long o_seed, .ref o_isKept, .ref o_kept])), (o_text, .inl (cI, 56, .inl o_text_v)), (o_readBar, .inl (cI, 16, .inl r1.2.2.2.2.2.1)), (o_readPlayer, .inl (cI, 24, .inl r1.2.2.2.2.2.2)), (o_now, .inl (cI, 32, .inl (upd v51.1 (Int32.toNatClampNeg (6 + nI k51)) y8))), (o_price, .inl (cI, 6, .inl (upd v51.2.1 (Int32.toNatClampNeg (nI k51)) y4))), (o_breath, .inl (cI, 6, .inl (upd v51.2.2.1 (Int32.toNatClampNeg (nI k51)) y5))), (o_kind, .inl (cI, 6, .inl (upd v51.2.2.2.1 (Int32.toNatClampNeg (nI k51)) y6))), (o_looks, .inl (cI, 6, .inl (upd v51.2.2.2.2 (Int32.toNatClampNeg (nI k51)) y7))), (o_noise, .inl (cI, 8, .inl o_noise_v)), (o_repeat, .inl (cI, 8, .inl o_repeat_v)), (o_isKept, .inl (cZ, 2, .inl o_isKept_v))] H := hP
        have hD : va_D A [(o_h, .inr (5, [.int r1.2.1, .int r1.2.2.1, .ref o_price, .ref o_breath, .ref o_kind, .ref o_looks, .ref o_noise, .ref o_repeat, .ref o_now, .ref o_readPlayer, .ref o_readBar, .int r1.2.1, .int r1.2.2.1, .ref o_text, .int o_length, .int r1.2.2.2.1, .int r1.2.2.2.2.1, .int o_acts, .int o_next, .ref o_row, .int o_heard, .ref o_heardOf, .ref o_heardBars, .ref o_heardPlays, .int o_hushWho, .int o_hushSum, .long o_seed, .ref o_isKept, .ref o_kept])), (o_text, .inl (cI, 56, .inl o_text_v)), (o_readBar, .inl (cI, 16, .inl r1.2.2.2.2.2.1)), (o_readPlayer, .inl (cI, 24, .inl r1.2.2.2.2.2.2)), (o_now, .inl (cI, 32, .inl (upd v51.1 (Int32.toNatClampNeg (6 + nI k51)) y8))), (o_price, .inl (cI, 6, .inl (upd v51.2.1 (Int32.toNatClampNeg (nI k51)) y4))), (o_breath, .inl (cI, 6, .inl (upd v51.2.2.1 (Int32.toNatClampNeg (nI k51)) y5))), (o_kind, .inl (cI, 6, .inl (upd v51.2.2.2.1 (Int32.toNatClampNeg (nI k51)) y6))), (o_looks, .inl (cI, 6, .inl (upd v51.2.2.2.2 (Int32.toNatClampNeg (nI k51)) y7))), (o_noise, .inl (cI, 8, .inl o_noise_v)), (o_repeat, .inl (cI, 8, .inl o_repeat_v)), (o_isKept, .inl (cZ, 2, .inl o_isKept_v))] := hD
        refine lv_iinc (v := nI (k51 + 1)) (lv' := [(1, .int (nI (k51 + 1))), (0, .ref o_h)]) hx hb dX5_concert_136 hl (k := 1) rfl (nI_1 k51) (by decide) rfl (fun ls hl => ?_)
        refine lv_goto (tgt := 51) hx hb dX5_concert_139 (by decide) ?_
        subst hw
        exact ih _ _ _ hP hD hS (lv_sub hl [1, 0] rfl)
    · intro k30 hk v30 hv w hw ih H locs ls hP hD hS hl
      have hw : w = b_X5_concert_30 k30 v30 := by rw [hw, hv]; rfl
      unfold b_X5_concert_30 at hw
      have hkb : k30 < 16 := Nat.lt_of_lt_of_le hk (by decide)
      have hP : va_P (dC, dI) vwCl [(o_h, .inr (5, [.int r1.2.1, .int r1.2.2.1, .ref o_price, .ref o_breath, .ref o_kind, .ref o_looks, .ref o_noise, .ref o_repeat, .ref o_now, .ref o_readPlayer, .ref o_readBar, .int r1.2.1, .int r1.2.2.1, .ref o_text, .int o_length, .int r1.2.2.2.1, .int r1.2.2.2.2.1, .int o_acts, .int o_next, .ref o_row, .int o_heard, .ref o_heardOf, .ref o_heardBars, .ref o_heardPlays, .int o_hushWho, .int o_hushSum, .long o_seed, .ref o_isKept, .ref o_kept])), (o_text, .inl (cI, 56, .inl o_text_v)), (o_readBar, .inl (cI, 16, .inl r1.2.2.2.2.2.1)), (o_readPlayer, .inl (cI, 24, .inl r1.2.2.2.2.2.2)), (o_now, .inl (cI, 32, .inl v30)), (o_price, .inl (cI, 6, .inl o_price_v)), (o_breath, .inl (cI, 6, .inl o_breath_v)), (o_kind, .inl (cI, 6, .inl o_kind_v)), (o_looks, .inl (cI, 6, .inl o_looks_v)), (o_noise, .inl (cI, 8, .inl o_noise_v)), (o_repeat, .inl (cI, 8, .inl o_repeat_v)), (o_isKept, .inl (cZ, 2, .inl o_isKept_v))] H := hP
      have hD : va_D A [(o_h, .inr (5, [.int r1.2.1, .int r1.2.2.1, .ref o_price, .ref o_breath, .ref o_kind, .ref o_looks, .ref o_noise, .ref o_repeat, .ref o_now, .ref o_readPlayer, .ref o_readBar, .int r1.2.1, .int r1.2.2.1, .ref o_text, .int o_length, .int r1.2.2.2.1, .int r1.2.2.2.2.1, .int o_acts, .int o_next, .ref o_row, .int o_heard, .ref o_heardOf, .ref o_heardBars, .ref o_heardPlays, .int o_hushWho, .int o_hushSum, .long o_seed, .ref o_isKept, .ref o_kept])), (o_text, .inl (cI, 56, .inl o_text_v)), (o_readBar, .inl (cI, 16, .inl r1.2.2.2.2.2.1)), (o_readPlayer, .inl (cI, 24, .inl r1.2.2.2.2.2.2)), (o_now, .inl (cI, 32, .inl v30)), (o_price, .inl (cI, 6, .inl o_price_v)), (o_breath, .inl (cI, 6, .inl o_breath_v)), (o_kind, .inl (cI, 6, .inl o_kind_v)), (o_looks, .inl (cI, 6, .inl o_looks_v)), (o_noise, .inl (cI, 8, .inl o_noise_v)), (o_repeat, .inl (cI, 8, .inl o_repeat_v)), (o_isKept, .inl (cZ, 2, .inl o_isKept_v))] := hD
      have hl : lv_has ls 2 [(0, .ref o_h), (1, .int (nI k30))] := hl
      refine lv_iload_n hx hb dX5_concert_30 rfl (lv_at hl 1 rfl) ?_
      refine lv_bipush (v := 16) hx hb dX5_concert_31 (by decide) ?_
      refine lv_icmp_ge (tgt := 49) hx hb dX5_concert_33 (by decide) (fun c_33 => absurd c_33 (hg_lo1 hk)) (fun c_33 => ?_)
      refine lv_aload_n hx hb dX5_concert_36 rfl (lv_at hl 0 rfl) ?_
      refine va_get (D := (dC, dI)) (ci := 5) (v := .ref o_now) (C := RX5) (T := TX5) (N := 29) hx hb hts hinX5 hown hK hP 0 rfl rfl 8 (by decide) w5 (fun _ h9 => h9) rfl dX5_concert_37 ?_
      refine lv_iload_n hx hb dX5_concert_40 rfl (lv_at hl 1 rfl) ?_
      refine lv_iconst (v := 0) hx hb dX5_concert_41 (by decide) ?_
      refine va_iast hx hb hK hP hD hS 4 0 rfl rfl (n := 32) (f := v30) (hg_in (n := k30) (N := 32) rfl (by omega) (by decide)) dX5_concert_42 (fun H locs hP hD hS => ?_)
      have hP : va_P (dC, dI) vwCl [(o_h, .inr (5, [.int r1.2.1, .int r1.2.2.1, .ref o_price, .ref o_breath, .ref o_kind, .ref o_looks, .ref o_noise, .ref o_repeat, .ref o_now, .ref o_readPlayer, .ref o_readBar, .int r1.2.1, .int r1.2.2.1, .ref o_text, .int o_length, .int r1.2.2.2.1, .int r1.2.2.2.2.1, .int o_acts, .int o_next, .ref o_row, .int o_heard, .ref o_heardOf, .ref o_heardBars, .ref o_heardPlays, .int o_hushWho, .int o_hushSum, .long o_seed, .ref o_isKept, .ref o_kept])), (o_text, .inl (cI, 56, .inl o_text_v)), (o_readBar, .inl (cI, 16, .inl r1.2.2.2.2.2.1)), (o_readPlayer, .inl (cI, 24, .inl r1.2.2.2.2.2.2)), (o_now, .inl (cI, 32, .inl (upd v30 (Int32.toNatClampNeg (nI k30)) 0))), (o_price, .inl (cI, 6, .inl o_price_v)), (o_breath, .inl (cI, 6, .inl o_breath_v)), (o_kind, .inl (cI, 6, .inl o_kind_v)), (o_looks, .inl (cI, 6, .inl o_looks_v)), (o_noise, .inl (cI, 8, .inl o_noise_v)), (o_repeat, .inl (cI, 8, .inl o_repeat_v)), (o_isKept, .inl (cZ, 2, .inl o_isKept_v))] H := hP
      have hD : va_D A [(o_h, .inr (5, [.int r1.2.1, .int r1.2.2.1, .ref o_price, .ref o_breath, .ref o_kind, .ref o_looks, .ref o_noise, .ref o_repeat, .ref o_now, .ref o_readPlayer, .ref o_readBar, .int r1.2.1, .int r1.2.2.1, .ref o_text, .int o_length, .int r1.2.2.2.1, .int r1.2.2.2.2.1, .int o_acts, .int o_next, .ref o_row, .int o_heard, .ref o_heardOf, .ref o_heardBars, .ref o_heardPlays, .int o_hushWho, .int o_hushSum, .long o_seed, .ref o_isKept, .ref o_kept])), (o_text, .inl (cI, 56, .inl o_text_v)), (o_readBar, .inl (cI, 16, .inl r1.2.2.2.2.2.1)), (o_readPlayer, .inl (cI, 24, .inl r1.2.2.2.2.2.2)), (o_now, .inl (cI, 32, .inl (upd v30 (Int32.toNatClampNeg (nI k30)) 0))), (o_price, .inl (cI, 6, .inl o_price_v)), (o_breath, .inl (cI, 6, .inl o_breath_v)), (o_kind, .inl (cI, 6, .inl o_kind_v)), (o_looks, .inl (cI, 6, .inl o_looks_v)), (o_noise, .inl (cI, 8, .inl o_noise_v)), (o_repeat, .inl (cI, 8, .inl o_repeat_v)), (o_isKept, .inl (cZ, 2, .inl o_isKept_v))] := hD
      refine lv_iinc (v := nI (k30 + 1)) (lv' := [(1, .int (nI (k30 + 1))), (0, .ref o_h)]) hx hb dX5_concert_43 hl (k := 1) rfl (nI_1 k30) (by decide) rfl (fun ls hl => ?_)
      refine lv_goto (tgt := 30) hx hb dX5_concert_46 (by decide) ?_
      subst hw
      exact ih _ _ _ hP hD hS (lv_sub hl [1, 0] rfl)
  · have hu := hu.trans (if_neg c_6)
    refine lv_bipush (v := (-3)) hx hb dX5_concert_9 (by decide) ?_
    subst hu
    exact hg_ri hx hb hr hlk rfl hP hD hS dX5_concert_11
