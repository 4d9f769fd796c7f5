def f_X5_in (x0 : Int64) (x1 : Int64) (x2 : Int64) : Int32 :=
  if x0 < x1 then 0
  else if x2 < x0 then 0
   else 1
theorem mIn {x : Int32} {a b : Int64} {r : Int32} (er : r = f_X5_in (Int32.toInt64 x) a b) (h : ¬ r = 0) : a.toInt ≤ x.toInt ∧ x.toInt ≤ b.toInt := by
  subst er
  unfold f_X5_in at h
  by_cases c1 : x.toInt64 < a
  · rw [if_pos c1] at h; exact absurd rfl h
  · rw [if_neg c1] at h
    by_cases c2 : b < x.toInt64
    · rw [if_pos c2] at h; exact absurd rfl h
    · rw [Int64.lt_iff_toInt_lt, Int32.toInt_toInt64] at c1 c2
      omega
theorem mS {x r : Int32} (er : r = f_X5_in (Int32.toInt64 x) 0 1) (h : ¬ r = 0) : ∃ j, j < 2 ∧ x = nI j := by
  have q := mIn er h
  have h0 : (0 : Int64).toInt = 0 := by decide
  have h1 : (1 : Int64).toInt = 1 := by decide
  rw [h0, h1] at q
  exact mNat q.1 (by omega) (by decide)
theorem mPb {x y r : Int32} {n : Nat} (e : y = nI n) (hn : n ≤ 8) (er : r = f_X5_in (Int32.toInt64 x) 0 (Int32.toInt64 (y - 1))) (h : ¬ r = 0) : ∃ j, j < n ∧ x = nI j := by
  have q := mIn er h
  have h0 : (0 : Int64).toInt = 0 := by decide
  have h1 : ∀ n, n < 9 → (nI n - 1).toInt = (n : Int) - 1 := by decide +kernel
  rw [h0, Int32.toInt_toInt64, e, h1 n (by omega)] at q
  exact mNat q.1 (by omega) (by omega)
theorem z_X5_in {x0 : Int64} {x1 : Int64} {x2 : Int64} {r : Int32} (er : r = f_X5_in x0 x1 x2) : narrow .boolean (.int r) = .int r := by
  subst er
  simp only [f_X5_in, lxb]
  repeat' split
  all_goals first | exact (by decide : narrow .boolean (.int (0 : Int32)) = .int 0) | exact (by decide : narrow .boolean (.int (1 : Int32)) = .int 1)

def f_X5_has (x0 : Int32) (x1 : Int32) : Int32 :=
  if ((x0 >>> (x1 &&& 31)) &&& 1) = 1 then 1
  else 0

def b_X5_ones_4 (x0 : Int32) (k4 : Nat) (v4 : Int32) : Int32 :=
  lxb ((v4 + ((x0 >>> (nI k4 &&& 31)) &&& 1))) (fun y1 =>
  y1)
def l_X5_ones_4 (x0 : Int32) (i0 : Int32) : Nat → Int32
  | 0 => i0
  | k + 1 => b_X5_ones_4 x0 k (l_X5_ones_4 x0 i0 k)
def f_X5_ones (x0 : Int32) : Int32 :=
  lxb (l_X5_ones_4 x0 0 (itn 0 6)) (fun r2 =>
  r2)
theorem mOnesL (x : Int32) : ∀ k, ∃ c, c ≤ k ∧ l_X5_ones_4 x 0 k = nI c
  | 0 => ⟨0, Nat.le_refl _, rfl⟩
  | k + 1 => by
    obtain ⟨c, hc, e⟩ := mOnesL x k
    obtain ⟨j, hj, ej⟩ := pk_andE (x >>> (nI k &&& 31)) (m := 1) 1 (by decide)
    refine ⟨c + j, by omega, ?_⟩
    show l_X5_ones_4 x 0 k + ((x >>> (nI k &&& 31)) &&& 1) = _
    rw [e, ej, nI_add]
theorem mOnes (x : Int32) : ∃ c, c ≤ 6 ∧ f_X5_ones x = nI c := mOnesL x 6

def f_X5_wipe (o_length : Int32) : Int32 × Int32 :=
  (o_length, 0)

def f_X5_write (x0 : Int32) (o_length : Int32) (o_text_v : Nat → Int32) : Int32 × Int32 × (Nat → Int32) :=
  lxb (f_X5_in (Int32.toInt64 x0) 0 255) (fun r1 =>
  if r1 = 0 then ((-2), o_length, o_text_v)
   else if o_length = 56 then ((-4), o_length, o_text_v)
    else ((o_length + 1), (o_length + 1), (upd o_text_v (Int32.toNatClampNeg o_length) x0)))

def f_X5_figureOf (x0 : Int32) (x1 : Int32) (o_length : Int32) (o_at : Int32) (o_faultAt : Int32) (o_text_v : Nat → Int32) : Int32 × Int32 × Int32 :=
  if o_faultAt = (-9) then (if o_length ≤ o_at then (lxb (α := Int32) (if o_faultAt = (-9) then o_at
     else o_faultAt) (fun z2 =>
    (0, o_at, z2)))
   else lxb (((o_text_v (Int32.toNatClampNeg o_at)) - 48)) (fun y3 =>
    lxb (f_X5_in (Int32.toInt64 y3) (Int32.toInt64 x0) (Int32.toInt64 x1)) (fun r4 =>
     if r4 = 0 then (lxb (α := Int32) (if o_faultAt = (-9) then o_at
        else o_faultAt) (fun z5 =>
       (0, o_at, z5)))
      else (y3, (o_at + 1), o_faultAt))))
  else lxb (α := Int32) (if o_faultAt = (-9) then o_at
    else o_faultAt) (fun z1 =>
   (0, o_at, z1))
theorem mFig {lo hi len a f : Int32} {tx : Nat → Int32} {r : Int32 × Int32 × Int32} {nl ta : Nat} (enl : len = nI nl) (eta : a = nI ta) (h : ta ≤ nl ∧ nl ≤ 56) (er : r = f_X5_figureOf lo hi len a f tx) : ∃ t, r.2.1 = nI t ∧ ta ≤ t ∧ t ≤ nl := by
  obtain ⟨h, h56⟩ := h
  subst er
  dsimp only [f_X5_figureOf, lxb]
  by_cases c1 : f = (-9)
  · rw [if_pos c1]
    by_cases c2 : len ≤ a
    · rw [if_pos c2]; exact ⟨ta, eta, Nat.le_refl _, h⟩
    · rw [if_neg c2]
      have c3 := hg_nltN eta enl (by omega) (by omega) c2
      split
      · exact ⟨ta, eta, Nat.le_refl _, h⟩
      · exact ⟨ta + 1, nx_add eta rfl, by omega, by omega⟩
  · rw [if_neg c1]; exact ⟨ta, eta, Nat.le_refl _, h⟩
theorem mNe9 {x : Int32} {n : Nat} (e : x = nI n) (hn : n < 2 ^ 31) : ¬ x = (-9) := fun q => by
  have h1 := nI_toInt hn
  have h2 : (-9 : Int32).toInt = -9 := by decide
  rw [← e, q, h2] at h1
  omega
theorem mMu0 {nl : Nat} (h : nl ≤ 56) : (if (-9 : Int32) = (-9) then nl + 1 - (Int32.toInt 1).toNat else 0) < 60 := by
  rw [if_pos rfl]
  omega
theorem mLessT {a f f' a' : Int32} {ta t nl n : Nat} (eta : a = nI ta) (hal : ta < nl) (hnl : nl ≤ 56) (et : a' = nI t) (ht : t ≤ nl) (c : f = (-9)) (hf : f' = (-9) → ta < t) (hm : (if f = (-9) then nl + 1 - (Int32.toInt a).toNat else 0) < n + 1) : (if f' = (-9) then nl + 1 - (Int32.toInt a').toNat else 0) < n := by
  rw [if_pos c, eta, nI_toInt (by omega)] at hm
  by_cases c2 : f' = (-9)
  · have := hf c2
    rw [if_pos c2, et, nI_toInt (by omega)]
    omega
  · rw [if_neg c2]; omega

def f_X5_readPart (x0 : Int32) (o_readPlayers : Int32) (o_readBars : Int32) (o_length : Int32) (o_at : Int32) (o_faultAt : Int32) (o_text_v : Nat → Int32) (o_readBar_v : Nat → Int32) (o_readPlayer_v : Nat → Int32) : Int32 × Int32 × Int32 × Int32 × (Nat → Int32) × (Nat → Int32) :=
  if x0 = 80 then (if 6 ≤ o_readPlayers then (if x0 = 66 then (if 8 ≤ o_readBars then (o_readPlayers, o_readBars, o_at, o_at, o_readBar_v, o_readPlayer_v)
     else lxb (f_X5_figureOf 0 9 o_length (o_at + 1) o_faultAt o_text_v) (fun r5 =>
      lxb (f_X5_figureOf 0 7 o_length r5.2.1 r5.2.2 o_text_v) (fun r7 =>
       (o_readPlayers, (o_readBars + 1), r7.2.1, r7.2.2, (upd (upd o_readBar_v (Int32.toNatClampNeg (2 * o_readBars)) r5.1) (Int32.toNatClampNeg ((2 * o_readBars) + 1)) r7.1), o_readPlayer_v))))
    else (o_readPlayers, o_readBars, o_at, o_at, o_readBar_v, o_readPlayer_v))
   else lxb (f_X5_figureOf 1 9 o_length (o_at + 1) o_faultAt o_text_v) (fun r9 =>
    lxb (f_X5_figureOf 0 9 o_length r9.2.1 r9.2.2 o_text_v) (fun r11 =>
     lxb (f_X5_figureOf 0 3 o_length r11.2.1 r11.2.2 o_text_v) (fun r13 =>
      lxb (f_X5_figureOf 0 5 o_length r13.2.1 r13.2.2 o_text_v) (fun r15 =>
       ((o_readPlayers + 1), o_readBars, r15.2.1, r15.2.2, o_readBar_v, (upd (upd (upd (upd o_readPlayer_v (Int32.toNatClampNeg (4 * o_readPlayers)) r9.1) (Int32.toNatClampNeg ((4 * o_readPlayers) + 1)) r11.1) (Int32.toNatClampNeg ((4 * o_readPlayers) + 2)) r13.1) (Int32.toNatClampNeg ((4 * o_readPlayers) + 3)) r15.1)))))))
  else if x0 = 66 then (if 8 ≤ o_readBars then (o_readPlayers, o_readBars, o_at, o_at, o_readBar_v, o_readPlayer_v)
    else lxb (f_X5_figureOf 0 9 o_length (o_at + 1) o_faultAt o_text_v) (fun r1 =>
     lxb (f_X5_figureOf 0 7 o_length r1.2.1 r1.2.2 o_text_v) (fun r3 =>
      (o_readPlayers, (o_readBars + 1), r3.2.1, r3.2.2, (upd (upd o_readBar_v (Int32.toNatClampNeg (2 * o_readBars)) r1.1) (Int32.toNatClampNeg ((2 * o_readBars) + 1)) r3.1), o_readPlayer_v))))
   else (o_readPlayers, o_readBars, o_at, o_at, o_readBar_v, o_readPlayer_v)

def l_X5_readText_46 (o_length : Int32) (o_text_v : Nat → Int32) : Nat → (Int32 × Int32 × Int32 × Int32 × (Nat → Int32) × (Nat → Int32)) → Int32 × Int32 × Int32 × Int32 × Int32 × (Nat → Int32) × (Nat → Int32)
  | 0, _ => default
  | n46 + 1, v46 =>
    if v46.2.2.2.1 = (-9) then (if o_length ≤ v46.2.2.1 then (v46.2.2.2.1, v46.1, v46.2.1, v46.2.2.1, v46.2.2.2.1, v46.2.2.2.2.1, v46.2.2.2.2.2)
     else lxb (f_X5_readPart (o_text_v (Int32.toNatClampNeg v46.2.2.1)) v46.1 v46.2.1 o_length v46.2.2.1 v46.2.2.2.1 o_text_v v46.2.2.2.2.1 v46.2.2.2.2.2) (fun r1 =>
      l_X5_readText_46 o_length o_text_v n46 (r1.1, r1.2.1, r1.2.2.1, r1.2.2.2.1, r1.2.2.2.2.1, r1.2.2.2.2.2)))
    else (v46.2.2.2.1, v46.1, v46.2.1, v46.2.2.1, v46.2.2.2.1, v46.2.2.2.2.1, v46.2.2.2.2.2)
def f_X5_readText (o_length : Int32) (o_text_v : Nat → Int32) (o_readBar_v : Nat → Int32) (o_readPlayer_v : Nat → Int32) : Int32 × Int32 × Int32 × Int32 × Int32 × (Nat → Int32) × (Nat → Int32) :=
  if o_length = 0 then (0, 0, 0, 0, (-9), o_readBar_v, o_readPlayer_v)
  else if (o_text_v (Int32.toNatClampNeg 0)) = 79 then l_X5_readText_46 o_length o_text_v 60 (0, 0, 1, (-9), o_readBar_v, o_readPlayer_v)
   else (0, 0, 0, 0, (-9), o_readBar_v, o_readPlayer_v)

def f_X5_fault (o_length : Int32) (o_text_v : Nat → Int32) (o_readBar_v : Nat → Int32) (o_readPlayer_v : Nat → Int32) : Int32 × Int32 × Int32 × Int32 × Int32 × (Nat → Int32) × (Nat → Int32) :=
  lxb (f_X5_readText o_length o_text_v o_readBar_v o_readPlayer_v) (fun r1 =>
  (r1.1, r1.2.1, r1.2.2.1, r1.2.2.2.1, r1.2.2.2.2.1, r1.2.2.2.2.2.1, r1.2.2.2.2.2.2))

def f_X5_isPlayer (x0 : Int32) (o_players : Int32) : Int32 :=
  lxb (f_X5_in (Int32.toInt64 x0) 0 (Int32.toInt64 (o_players - 1))) (fun r1 =>
  r1)
theorem mP {x y r : Int32} {n : Nat} (e : y = nI n) (hn : n ≤ 6) (er : r = f_X5_isPlayer x y) (h : ¬ r = 0) : ∃ j, j < n ∧ x = nI j := mPb e (by omega) (er : r = f_X5_in (Int32.toInt64 x) 0 (Int32.toInt64 (y - 1))) h

def b_X5_whoIs_5 (x0 : Int32) (x1 : Int32) (o_now_v : Nat → Int32) (k5 : Nat) (v5 : Int32) : Int32 :=
  lxb (α := Int32) (if (o_now_v (Int32.toNatClampNeg ((16 * x0) + nI k5))) = x1 then (1 <<< (nI k5 &&& 31))
   else 0) (fun z1 =>
  (v5 ||| z1))
def l_X5_whoIs_5 (x0 : Int32) (x1 : Int32) (o_now_v : Nat → Int32) (i0 : Int32) : Nat → Int32
  | 0 => i0
  | k + 1 => b_X5_whoIs_5 x0 x1 o_now_v k (l_X5_whoIs_5 x0 x1 o_now_v i0 k)
def f_X5_whoIs (x0 : Int32) (x1 : Int32) (o_players : Int32) (o_now_v : Nat → Int32) : Int32 :=
  lxb (l_X5_whoIs_5 x0 x1 o_now_v 0 (itn 0 o_players)) (fun r2 =>
  r2)

def f_X5_howMany (x0 : Int32) (o_players : Int32) (o_now_v : Nat → Int32) : Int32 :=
  lxb (f_X5_whoIs x0 0 o_players o_now_v) (fun r1 =>
  lxb (f_X5_ones r1) (fun r2 =>
   r2))

def f_X5_isSilent (x0 : Int32) (o_players : Int32) (o_bars : Int32) (o_now_v : Nat → Int32) : Int32 :=
  lxb (f_X5_howMany x0 o_players o_now_v) (fun r1 =>
  if r1 = 0 then 1
   else if (o_now_v (Int32.toNatClampNeg ((16 * x0) + 12))) < o_bars then 0
    else 1)
theorem mBar {x0 y r o_players o_bars : Int32} {now : Nat → Int32} {nb lv : Nat} (enb : o_bars = nI nb) (hnb : nb ≤ 8) (hB : mB now) (elv : x0 = nI lv) (hlv : lv < 2) (ey : y = now (Int32.toNatClampNeg ((16 * x0) + 12))) (er : r = f_X5_isSilent x0 o_players o_bars now) (c : r = 0) : ∃ j, j < nb ∧ y = nI j := by
  rw [er] at c
  dsimp only [f_X5_isSilent, lxb] at c
  by_cases c1 : f_X5_howMany x0 o_players now = 0
  · rw [if_pos c1] at c; exact absurd c (by decide)
  · rw [if_neg c1] at c
    by_cases c2 : now (Int32.toNatClampNeg ((16 * x0) + 12)) < o_bars
    · rw [← ey] at c2
      have e1 : (16 * x0) + 12 = nI (16 * lv + 12) := nx_add (nx_mul rfl elv) rfl
      refine hg_nat2 ?_ c2 enb (by omega)
      rw [ey, e1, nI_clamp (by omega)]
      rcases (show lv = 0 ∨ lv = 1 by omega) with rfl | rfl
      · exact hB.1
      · exact hB.2
    · rw [if_neg c2] at c; exact absurd c (by decide)
theorem z_X5_isSilent {x0 : Int32} {o_players : Int32} {o_bars : Int32} {o_now_v : Nat → Int32} {r : Int32} (er : r = f_X5_isSilent x0 o_players o_bars o_now_v) : narrow .boolean (.int r) = .int r := by
  subst er
  simp only [f_X5_isSilent, lxb]
  repeat' split
  all_goals first | exact (by decide : narrow .boolean (.int (0 : Int32)) = .int 0) | exact (by decide : narrow .boolean (.int (1 : Int32)) = .int 1)

def f_X5_plays (x0 : Int32) (x1 : Int32) (o_players : Int32) (o_now_v : Nat → Int32) : Int32 :=
  lxb (f_X5_isPlayer x1 o_players) (fun r1 =>
  if r1 = 0 then 0
   else if (o_now_v (Int32.toNatClampNeg ((16 * x0) + x1))) = 0 then 1
    else 0)
theorem mPlays {x0 x1 y r : Int32} {now : Nat → Int32} {n : Nat} (e : y = nI n) (hn : n ≤ 6) (er : r = f_X5_plays x0 x1 y now) (h : ¬ r = 0) : ∃ j, j < n ∧ x1 = nI j := by
  subst er
  dsimp only [f_X5_plays, lxb] at h
  by_cases c : f_X5_isPlayer x1 y = 0
  · rw [if_pos c] at h; exact absurd rfl h
  · exact mP e hn rfl c

def b_X5_blow_8 (x0 : Int32) (x1 : Int32) (o_kind_v : Nat → Int32) (k8 : Nat) (v8 : (Nat → Int32)) : (Nat → Int32) :=
  if (v8 (Int32.toNatClampNeg ((16 * x0) + nI k8))) = 0 then (lxb (α := Int32) (if (o_kind_v (Int32.toNatClampNeg (nI k8))) = 2 then (if x1 < 5 then 1
     else 2)
    else 1) (fun z1 =>
   lxb (α := Int32) (if (v8 (Int32.toNatClampNeg (((16 * x0) + 6) + nI k8))) ≤ z1 then 0
     else ((v8 (Int32.toNatClampNeg (((16 * x0) + 6) + nI k8))) - z1)) (fun z2 =>
    lxb (α := Int32) (if ((upd v8 (Int32.toNatClampNeg (((16 * x0) + 6) + nI k8)) z2) (Int32.toNatClampNeg (((16 * x0) + 6) + nI k8))) = 0 then 2
      else 0) (fun z4 =>
     (upd (upd v8 (Int32.toNatClampNeg (((16 * x0) + 6) + nI k8)) z2) (Int32.toNatClampNeg ((16 * x0) + nI k8)) z4)))))
  else v8
def l_X5_blow_8 (x0 : Int32) (x1 : Int32) (o_kind_v : Nat → Int32) (i0 : (Nat → Int32)) : Nat → (Nat → Int32)
  | 0 => i0
  | k + 1 => b_X5_blow_8 x0 x1 o_kind_v k (l_X5_blow_8 x0 x1 o_kind_v i0 k)
def f_X5_blow (x0 : Int32) (x1 : Int32) (o_players : Int32) (o_now_v : Nat → Int32) (o_kind_v : Nat → Int32) : (Nat → Int32) :=
  lxb (l_X5_blow_8 x0 x1 o_kind_v o_now_v (itn 0 o_players)) (fun r6 =>
  r6)

def b_X5_lean_7 (x0 : Int32) (o_players : Int32) (o_kind_v : Nat → Int32) (o_looks_v : Nat → Int32) (k7 : Nat) (v7 : (Nat → Int32)) : (Nat → Int32) :=
  lxb (α := Int32) (if (v7 (Int32.toNatClampNeg ((16 * x0) + nI k7))) = 0 then (if (o_kind_v (Int32.toNatClampNeg (nI k7))) = 1 then (lxb (f_X5_isPlayer (o_looks_v (Int32.toNatClampNeg (nI k7))) o_players) (fun r2 =>
     if r2 = 0 then 0
      else lxb (f_X5_plays x0 (o_looks_v (Int32.toNatClampNeg (nI k7))) o_players v7) (fun r3 =>
       if r3 = 0 then 1
        else 0)))
    else 0)
   else 0) (fun z1 =>
  lxb (α := Int32) (if z1 = 0 then (v7 (Int32.toNatClampNeg ((16 * x0) + nI k7)))
    else 2) (fun z4 =>
   (upd v7 (Int32.toNatClampNeg ((16 * x0) + nI k7)) z4)))
def l_X5_lean_7 (x0 : Int32) (o_players : Int32) (o_kind_v : Nat → Int32) (o_looks_v : Nat → Int32) (i0 : (Nat → Int32)) : Nat → (Nat → Int32)
  | 0 => i0
  | k + 1 => b_X5_lean_7 x0 o_players o_kind_v o_looks_v k (l_X5_lean_7 x0 o_players o_kind_v o_looks_v i0 k)
def b_X5_lean_106 (x0 : Int32) (o_kind_v : Nat → Int32) (r6 : (Nat → Int32)) (k106 : Nat) (v106 : Int32) : Int32 :=
  lxb (α := Int32) (if v106 = 0 then (if (r6 (Int32.toNatClampNeg ((16 * x0) + nI k106))) = 0 then (if (o_kind_v (Int32.toNatClampNeg (nI k106))) = 2 then 0
     else 1)
    else 0)
   else 1) (fun z7 =>
  z7)
def l_X5_lean_106 (x0 : Int32) (o_kind_v : Nat → Int32) (r6 : (Nat → Int32)) (i0 : Int32) : Nat → Int32
  | 0 => i0
  | k + 1 => b_X5_lean_106 x0 o_kind_v r6 k (l_X5_lean_106 x0 o_kind_v r6 i0 k)
def b_X5_lean_157 (x0 : Int32) (o_kind_v : Nat → Int32) (r8 : Int32) (k157 : Nat) (v157 : (Nat → Int32)) : (Nat → Int32) :=
  lxb (α := Int32) (if (v157 (Int32.toNatClampNeg ((16 * x0) + nI k157))) = 0 then (if (o_kind_v (Int32.toNatClampNeg (nI k157))) = 2 then (if r8 = 0 then 2
     else (v157 (Int32.toNatClampNeg ((16 * x0) + nI k157))))
    else (v157 (Int32.toNatClampNeg ((16 * x0) + nI k157))))
   else (v157 (Int32.toNatClampNeg ((16 * x0) + nI k157)))) (fun z9 =>
  (upd v157 (Int32.toNatClampNeg ((16 * x0) + nI k157)) z9))
def l_X5_lean_157 (x0 : Int32) (o_kind_v : Nat → Int32) (r8 : Int32) (i0 : (Nat → Int32)) : Nat → (Nat → Int32)
  | 0 => i0
  | k + 1 => b_X5_lean_157 x0 o_kind_v r8 k (l_X5_lean_157 x0 o_kind_v r8 i0 k)
def b_X5_lean_224 (x0 : Int32) (o_players : Int32) (o_kind_v : Nat → Int32) (o_looks_v : Nat → Int32) (k224 : Nat) (v224 : (Nat → Int32)) : (Nat → Int32) :=
  if (v224 (Int32.toNatClampNeg ((16 * x0) + nI k224))) = 2 then (if (o_kind_v (Int32.toNatClampNeg (nI k224))) = 3 then (lxb (f_X5_plays x0 (o_looks_v (Int32.toNatClampNeg (nI k224))) o_players v224) (fun r12 =>
    if r12 = 0 then v224
     else (upd (upd v224 (Int32.toNatClampNeg ((16 * x0) + nI k224)) 0) (Int32.toNatClampNeg (((16 * x0) + 6) + nI k224)) 2)))
   else v224)
  else v224
def l_X5_lean_224 (x0 : Int32) (o_players : Int32) (o_kind_v : Nat → Int32) (o_looks_v : Nat → Int32) (i0 : (Nat → Int32)) : Nat → (Nat → Int32)
  | 0 => i0
  | k + 1 => b_X5_lean_224 x0 o_players o_kind_v o_looks_v k (l_X5_lean_224 x0 o_players o_kind_v o_looks_v i0 k)
def f_X5_lean (x0 : Int32) (o_players : Int32) (o_now_v : Nat → Int32) (o_kind_v : Nat → Int32) (o_looks_v : Nat → Int32) : (Nat → Int32) :=
  lxb (l_X5_lean_7 x0 o_players o_kind_v o_looks_v o_now_v (itn 0 o_players)) (fun r6 =>
  lxb (l_X5_lean_106 x0 o_kind_v r6 0 (itn 0 o_players)) (fun r8 =>
   lxb (l_X5_lean_157 x0 o_kind_v r8 r6 (itn 0 o_players)) (fun r11 =>
    lxb (l_X5_lean_224 x0 o_players o_kind_v o_looks_v r11 (itn 0 o_players)) (fun r15 =>
     r15))))

def f_X5_passOn (x0 : Int32) (o_players : Int32) (o_bars : Int32) (o_now_v : Nat → Int32) (o_noise_v : Nat → Int32) (o_kind_v : Nat → Int32) (o_looks_v : Nat → Int32) (o_repeat_v : Nat → Int32) : Int32 × (Nat → Int32) :=
  lxb (f_X5_isSilent x0 o_players o_bars o_now_v) (fun r1 =>
  if r1 = 0 then (lxb ((o_now_v (Int32.toNatClampNeg ((16 * x0) + 12)))) (fun y2 =>
    lxb (f_X5_howMany x0 o_players o_now_v) (fun r3 =>
     lxb (((o_noise_v (Int32.toNatClampNeg y2)) * r3)) (fun y4 =>
      lxb (f_X5_blow x0 (o_noise_v (Int32.toNatClampNeg y2)) o_players o_now_v o_kind_v) (fun r5 =>
       lxb (f_X5_lean x0 o_players r5 o_kind_v o_looks_v) (fun r7 =>
        lxb (f_X5_in (Int32.toInt64 (o_repeat_v (Int32.toNatClampNeg y2))) 1 (Int32.toInt64 o_bars)) (fun r9 =>
         lxb (α := Int32) (if r9 = 0 then 0
           else lxb (f_X5_has (r7 (Int32.toNatClampNeg ((16 * x0) + 13))) y2) (fun r11 =>
            if r11 = 0 then 1
             else 0)) (fun z10 =>
          lxb (α := Int32) (if z10 = 0 then (y2 + 1)
            else ((o_repeat_v (Int32.toNatClampNeg y2)) - 1)) (fun z12 =>
           lxb (α := Int32) (if z10 = 0 then 0
             else (1 <<< (y2 &&& 31))) (fun z14 =>
            lxb ((((upd r7 (Int32.toNatClampNeg ((16 * x0) + 12)) z12) (Int32.toNatClampNeg ((16 * x0) + 13))) ||| z14)) (fun y15 =>
             lxb ((((upd (upd r7 (Int32.toNatClampNeg ((16 * x0) + 12)) z12) (Int32.toNatClampNeg ((16 * x0) + 13)) y15) (Int32.toNatClampNeg ((16 * x0) + 15))) + 1)) (fun y17 =>
              (y4, (upd (upd (upd r7 (Int32.toNatClampNeg ((16 * x0) + 12)) z12) (Int32.toNatClampNeg ((16 * x0) + 13)) y15) (Int32.toNatClampNeg ((16 * x0) + 15)) y17))))))))))))))
   else (0, o_now_v))
theorem mBack {z12 z10 r9 y2 rp T bars : Int32} {jb : Nat} (e12 : z12 = if z10 = 0 then y2 + 1 else rp - 1) (e10 : z10 = if r9 = 0 then 0 else T) (e9 : r9 = f_X5_in (Int32.toInt64 rp) 1 (Int32.toInt64 bars)) (ey : y2 = nI jb) (hj : jb < 8) : 0 ≤ z12 := by
  rw [e12]
  by_cases c : z10 = 0
  · rw [if_pos c, ey, nI_1]; exact nI_pos' (by omega)
  · rw [if_neg c]
    have c9 : ¬ r9 = 0 := fun q => c (by rw [e10, if_pos q])
    have q := mIn e9 c9
    have h1 : (1 : Int64).toInt = 1 := by decide
    rw [h1] at q
    have h2 := Int32.toInt_lt rp
    obtain ⟨j, hj2, ej⟩ := mPos (x := rp) (by omega)
    rw [ej, nI_toInt (by omega)] at q
    rw [ej, show (1 : Int32) = nI 1 from rfl, pk_sub (by omega)]
    exact nI_pos' (by omega)

def f_X5_nextBar (x0 : Int32) (o_players : Int32) (o_bars : Int32) (o_now_v : Nat → Int32) : Int32 :=
  lxb (f_X5_isSilent x0 o_players o_bars o_now_v) (fun r1 =>
  if r1 = 0 then (o_now_v (Int32.toNatClampNeg ((16 * x0) + 12)))
   else (-9))
set_option maxHeartbeats 4000000 in
set_option maxRecDepth 100000 in
theorem c_X5_in (l : Launch) (dC : Nat → ClassId) (dI : Nat → Nat → Nat) (cI cZ cM : ClassId) (sz : Nat) (x0 : Int64) (x1 : Int64) (x2 : Int64) (u : Int32) (hu : u = f_X5_in x0 x1 x2) : Met l yX5_in wsX5_in { frames := 0, cells := 0, slots := 0, locals := 0 } (hgPc [.long x0, .long x1, .long x2] (dC, dI) cI cZ cM [] sz) (hgQi (dC, dI) u [] (va_A [] sz)) 0 0 (va_A [] sz) := by
  refine hg_ofW (cc := cX5_in) (maxL := 6) (ret := (some .boolean)) (own := RX5) (fun A => hgQi (dC, dI) u [] A) rfl (by decide) rfl (Nat.le_of_ble_eq_true rfl) ?_
  intro p e s m below meth c ls A hsz hx hb hr hml hown hts hlk hnm hK hN hA hP hD hS hl
  subst hsz
  have hl : lv_has ls 6 [(0, .long x0), (2, .long x1), (4, .long x2)] := hl
  unfold f_X5_in at hu
  refine lv_lload_n hx hb dX5_in_0 rfl (lv_at hl 0 rfl) ?_
  refine lv_lload_n hx hb dX5_in_1 rfl (lv_at hl 1 rfl) ?_
  refine hg_lcmp_lt (tgt := 17) hx hb dX5_in_2 dX5_in_3 (by decide) (fun c_3 => ?_) (fun c_3 => ?_)
  · have hu := hu.trans (if_pos c_3)
    refine lv_iconst (v := 0) hx hb dX5_in_17 (by decide) ?_
    subst hu
    exact hg_rz hx hb hr hlk (by decide) rfl hP hD hS dX5_in_18
  · have hu := hu.trans (if_neg c_3)
    refine lv_lload_n hx hb dX5_in_6 rfl (lv_at hl 0 rfl) ?_
    refine lv_lload hx hb dX5_in_7 (lv_at hl 2 rfl) ?_
    refine hg_lcmp_gt (tgt := 17) hx hb dX5_in_9 dX5_in_10 (by decide) (fun c_10 => ?_) (fun c_10 => ?_)
    · have hu := hu.trans (if_pos c_10)
      refine lv_iconst (v := 0) hx hb dX5_in_17 (by decide) ?_
      subst hu
      exact hg_rz hx hb hr hlk (by decide) rfl hP hD hS dX5_in_18
    · have hu := hu.trans (if_neg c_10)
      refine lv_iconst (v := 1) hx hb dX5_in_13 (by decide) ?_
      refine lv_goto (tgt := 18) hx hb dX5_in_14 (by decide) ?_
      subst hu
      exact hg_rz hx hb hr hlk (by decide) rfl hP hD hS dX5_in_18

set_option maxHeartbeats 4000000 in
set_option maxRecDepth 100000 in
theorem c_X5_has (l : Launch) (dC : Nat → ClassId) (dI : Nat → Nat → Nat) (cI cZ cM : ClassId) (sz : Nat) (x0 : Int32) (x1 : Int32) (u : Int32) (hu : u = f_X5_has x0 x1) : Met l yX5_has wsX5_has { frames := 0, cells := 0, slots := 0, locals := 0 } (hgPc [.int x0, .int x1] (dC, dI) cI cZ cM [] sz) (hgQi (dC, dI) u [] (va_A [] sz)) 0 0 (va_A [] sz) := by
  refine hg_ofW (cc := cX5_has) (maxL := 2) (ret := (some .boolean)) (own := RX5) (fun A => hgQi (dC, dI) u [] A) rfl (by decide) rfl (Nat.le_of_ble_eq_true rfl) ?_
  intro p e s m below meth c ls A hsz hx hb hr hml hown hts hlk hnm hK hN hA hP hD hS hl
  subst hsz
  have hl : lv_has ls 2 [(0, .int x0), (1, .int x1)] := hl
  unfold f_X5_has at hu
  refine lv_iload_n hx hb dX5_has_0 rfl (lv_at hl 0 rfl) ?_
  refine lv_iload_n hx hb dX5_has_1 rfl (lv_at hl 1 rfl) ?_
  refine lv_ishr hx hb dX5_has_2 ?_
  refine lv_iconst (v := 1) hx hb dX5_has_3 (by decide) ?_
  refine lv_iand hx hb dX5_has_4 ?_
  refine lv_iconst (v := 1) hx hb dX5_has_5 (by decide) ?_
  refine lv_icmp_ne (tgt := 13) hx hb dX5_has_6 (by decide) (fun c_6 => ?_) (fun c_6 => ?_)
  · have hu := hu.trans (if_neg c_6)
    refine lv_iconst (v := 0) hx hb dX5_has_13 (by decide) ?_
    subst hu
    exact hg_rz hx hb hr hlk (by decide) rfl hP hD hS dX5_has_14
  · have hu := hu.trans (if_pos c_6)
    refine lv_iconst (v := 1) hx hb dX5_has_9 (by decide) ?_
    refine lv_goto (tgt := 14) hx hb dX5_has_10 (by decide) ?_
    subst hu
    exact hg_rz hx hb hr hlk (by decide) rfl hP hD hS dX5_has_14

set_option maxHeartbeats 4000000 in
set_option maxRecDepth 100000 in
theorem c_X5_ones (l : Launch) (dC : Nat → ClassId) (dI : Nat → Nat → Nat) (cI cZ cM : ClassId) (sz : Nat) (x0 : Int32) (u : Int32) (hu : u = f_X5_ones x0) : Met l yX5_ones wsX5_ones { frames := 0, cells := 0, slots := 0, locals := 0 } (hgPc [.int x0] (dC, dI) cI cZ cM [] sz) (hgQi (dC, dI) u [] (va_A [] sz)) 0 0 (va_A [] sz) := by
  refine hg_ofW (cc := cX5_ones) (maxL := 3) (ret := (some .int)) (own := RX5) (fun A => hgQi (dC, dI) u [] A) rfl (by decide) rfl (Nat.le_of_ble_eq_true rfl) ?_
  intro p e s m below meth c ls A hsz hx hb hr hml hown hts hlk hnm hK hN hA hP hD hS hl
  subst hsz
  have hl : lv_has ls 3 [(0, .int x0)] := hl
  unfold f_X5_ones at hu
  refine lv_iconst (v := 0) hx hb dX5_ones_0 (by decide) ?_
  refine lv_istore_n (lv' := [(1, .int 0), (0, .int x0)]) hx hb dX5_ones_1 rfl hl (by decide) rfl (fun ls hl => ?_)
  refine lv_iconst (v := 0) hx hb dX5_ones_2 (by decide) ?_
  refine lv_istore_n (lv' := [(2, .int 0), (1, .int 0), (0, .int x0)]) hx hb dX5_ones_3 rfl hl (by decide) rfl (fun ls hl => ?_)
  obtain ⟨r2, er2, hu⟩ := lxb_o hu
  refine hg_loopF (T := Int32) (N := (itn 0 6)) (fun v4 => []) (fun k4 v4 => [(0, .int x0), (1, .int v4), (2, .int (nI k4))]) (fun k4 => l_X5_ones_4 x0 0 k4) ?_ ?_ hP hD hS (lv_sub hl [2, 1, 0] rfl)
  · intro v4 hv H locs ls hP hD hS hl
    obtain rfl : r2 = v4 := er2.trans hv.symm
    have hP : va_P (dC, dI) vwCl [] H := hP
    have hD : va_D A [] := hD
    have hl : lv_has ls 3 [(0, .int x0), (1, .int r2), (2, .int (nI (itn 0 6)))] := hl
    refine lv_iload_n hx hb dX5_ones_4 rfl (lv_at hl 2 rfl) ?_
    refine lv_bipush (v := 6) hx hb dX5_ones_5 (by decide) ?_
    refine lv_icmp_ge (tgt := 24) hx hb dX5_ones_7 (by decide) (fun c_7 => ?_) (fun c_7 => absurd hg_lo0 c_7)
    refine lv_iload_n hx hb dX5_ones_24 rfl (lv_at hl 1 rfl) ?_
    subst hu
    exact hg_ri hx hb hr hlk rfl hP hD hS dX5_ones_25
  · intro k4 hk v4 hv w hw ih H locs ls hP hD hS hl
    have hw : w = b_X5_ones_4 x0 k4 v4 := by rw [hw, hv]; rfl
    unfold b_X5_ones_4 at hw
    have hkb : k4 < 6 := Nat.lt_of_lt_of_le hk (by decide)
    have hP : va_P (dC, dI) vwCl [] H := hP
    have hD : va_D A [] := hD
    have hl : lv_has ls 3 [(0, .int x0), (1, .int v4), (2, .int (nI k4))] := hl
    refine lv_iload_n hx hb dX5_ones_4 rfl (lv_at hl 2 rfl) ?_
    refine lv_bipush (v := 6) hx hb dX5_ones_5 (by decide) ?_
    refine lv_icmp_ge (tgt := 24) hx hb dX5_ones_7 (by decide) (fun c_7 => absurd c_7 (hg_lo1 hk)) (fun c_7 => ?_)
    refine lv_iload_n hx hb dX5_ones_10 rfl (lv_at hl 1 rfl) ?_
    refine lv_iload_n hx hb dX5_ones_11 rfl (lv_at hl 0 rfl) ?_
    refine lv_iload_n hx hb dX5_ones_12 rfl (lv_at hl 2 rfl) ?_
    refine lv_ishr hx hb dX5_ones_13 ?_
    refine lv_iconst (v := 1) hx hb dX5_ones_14 (by decide) ?_
    refine lv_iand hx hb dX5_ones_15 ?_
    refine lv_iadd hx hb dX5_ones_16 ?_
    obtain ⟨y1, ey1, hw⟩ := lxb_o hw
    refine lv_topi (fun z ez => ?_)
    obtain rfl : y1 = z := ey1.trans ez.symm
    refine lv_istore_n (lv' := [(1, .int y1), (0, .int x0), (2, .int (nI k4))]) hx hb dX5_ones_17 rfl hl (by decide) rfl (fun ls hl => ?_)
    refine lv_iinc (v := nI (k4 + 1)) (lv' := [(2, .int (nI (k4 + 1))), (1, .int y1), (0, .int x0)]) hx hb dX5_ones_18 hl (k := 2) rfl (nI_1 k4) (by decide) rfl (fun ls hl => ?_)
    refine lv_goto (tgt := 4) hx hb dX5_ones_21 (by decide) ?_
    subst hw
    exact ih _ _ _ hP hD hS (lv_sub hl [2, 1, 0] rfl)

set_option maxHeartbeats 4000000 in
set_option maxRecDepth 100000 in
theorem c_X5_wipe (l : Launch) (dC : Nat → ClassId) (dI : Nat → Nat → Nat) (cI cZ cM : ClassId) (sz : Nat) (o_h : Nat) (o_players : Int32) (o_bars : Int32) (o_price : Nat) (o_breath : Nat) (o_kind : Nat) (o_looks : Nat) (o_noise : Nat) (o_repeat : Nat) (o_now : Nat) (o_readPlayer : Nat) (o_readBar : Nat) (o_readPlayers : Int32) (o_readBars : Int32) (o_text : Nat) (o_length : Int32) (o_at : Int32) (o_faultAt : Int32) (o_acts : Int32) (o_next : Int32) (o_row : Nat) (o_heard : Int32) (o_heardOf : Nat) (o_heardBars : Nat) (o_heardPlays : Nat) (o_hushWho : Int32) (o_hushSum : Int32) (o_seed : Int64) (o_isKept : Nat) (o_kept : Nat) (np : Nat) (enp : o_players = nI np) (hnp : np ≤ 6) (nb : Nat) (enb : o_bars = nI nb) (hnb : nb ≤ 8) (u : Int32 × Int32) (hu : u = f_X5_wipe o_length) : Met l yX5_wipe wsX5_wipe { frames := 0, cells := 0, slots := 0, locals := 0 } (hgPc [.ref o_h] (dC, dI) cI cZ cM [(o_h, .inr (5, [.int o_players, .int o_bars, .ref o_price, .ref o_breath, .ref o_kind, .ref o_looks, .ref o_noise, .ref o_repeat, .ref o_now, .ref o_readPlayer, .ref o_readBar, .int o_readPlayers, .int o_readBars, .ref o_text, .int o_length, .int o_at, .int o_faultAt, .int o_acts, .int o_next, .ref o_row, .int o_heard, .ref o_heardOf, .ref o_heardBars, .ref o_heardPlays, .int o_hushWho, .int o_hushSum, .long o_seed, .ref o_isKept, .ref o_kept]))] sz) (hgQi (dC, dI) u.1 [(o_h, .inr (5, [.int o_players, .int o_bars, .ref o_price, .ref o_breath, .ref o_kind, .ref o_looks, .ref o_noise, .ref o_repeat, .ref o_now, .ref o_readPlayer, .ref o_readBar, .int o_readPlayers, .int o_readBars, .ref o_text, .int u.2, .int o_at, .int o_faultAt, .int o_acts, .int o_next, .ref o_row, .int o_heard, .ref o_heardOf, .ref o_heardBars, .ref o_heardPlays, .int o_hushWho, .int o_hushSum, .long o_seed, .ref o_isKept, .ref o_kept]))] (va_A [(o_h, .inr (5, [.int o_players, .int o_bars, .ref o_price, .ref o_breath, .ref o_kind, .ref o_looks, .ref o_noise, .ref o_repeat, .ref o_now, .ref o_readPlayer, .ref o_readBar, .int o_readPlayers, .int o_readBars, .ref o_text, .int o_length, .int o_at, .int o_faultAt, .int o_acts, .int o_next, .ref o_row, .int o_heard, .ref o_heardOf, .ref o_heardBars, .ref o_heardPlays, .int o_hushWho, .int o_hushSum, .long o_seed, .ref o_isKept, .ref o_kept]))] sz)) 0 0 (va_A [(o_h, .inr (5, [.int o_players, .int o_bars, .ref o_price, .ref o_breath, .ref o_kind, .ref o_looks, .ref o_noise, .ref o_repeat, .ref o_now, .ref o_readPlayer, .ref o_readBar, .int o_readPlayers, .int o_readBars, .ref o_text, .int o_length, .int o_at, .int o_faultAt, .int o_acts, .int o_next, .ref o_row, .int o_heard, .ref o_heardOf, .ref o_heardBars, .ref o_heardPlays, .int o_hushWho, .int o_hushSum, .long o_seed, .ref o_isKept, .ref o_kept]))] sz) := by
  refine hg_ofW (cc := cX5_wipe) (maxL := 2) (ret := (some .int)) (own := RX5) (fun A => hgQi (dC, dI) u.1 [(o_h, .inr (5, [.int o_players, .int o_bars, .ref o_price, .ref o_breath, .ref o_kind, .ref o_looks, .ref o_noise, .ref o_repeat, .ref o_now, .ref o_readPlayer, .ref o_readBar, .int o_readPlayers, .int o_readBars, .ref o_text, .int u.2, .int o_at, .int o_faultAt, .int o_acts, .int o_next, .ref o_row, .int o_heard, .ref o_heardOf, .ref o_heardBars, .ref o_heardPlays, .int o_hushWho, .int o_hushSum, .long o_seed, .ref o_isKept, .ref o_kept]))] A) rfl (by decide) rfl (Nat.le_of_ble_eq_true rfl) ?_
  intro p e s m below meth c ls A hsz hx hb hr hml hown hts hlk hnm hK hN hA hP hD hS hl
  subst hsz
  have w1 := hts (.fieldLink RX5 65 "HatGoesRoundModel" "length" "I") (List.mem_of_getElem? (i := 1) rfl)
  have hinX5 : ∀ w ∈ u_ws RX5 TX5 29, w ∈ wsX5_wipe := fun _ h => List.mem_cons_of_mem _ (List.mem_append_right _ h)
  have hl : lv_has ls 2 [(0, .ref o_h)] := hl
  unfold f_X5_wipe at hu
  refine lv_aload_n hx hb dX5_wipe_0 rfl (lv_at hl 0 rfl) ?_
  refine va_get (D := (dC, dI)) (ci := 5) (v := .int o_length) (C := RX5) (T := TX5) (N := 29) hx hb hts hinX5 hown hK hP 0 rfl rfl 14 (by decide) w1 (fun _ h9 => h9) rfl dX5_wipe_1 ?_
  refine lv_istore_n (lv' := [(1, .int o_length), (0, .ref o_h)]) hx hb dX5_wipe_4 rfl hl (by decide) rfl (fun ls hl => ?_)
  refine lv_aload_n hx hb dX5_wipe_5 rfl (lv_at hl 1 rfl) ?_
  refine lv_iconst (v := 0) hx hb dX5_wipe_6 (by decide) ?_
  refine va_put (D := (dC, dI)) (ci := 5) (v := .int 0) (ty := .int) (C := RX5) (T := TX5) (N := 29) hx hb hts hinX5 tyX5 tyX5_ok nmX5 hown hK hP hD hS 0 rfl rfl 14 (by decide) w1 (fun _ h9 => h9) rfl (by decide +kernel) rfl rfl (Nat.le_of_ble_eq_true rfl) dX5_wipe_7 (fun H locs hP hD hS => ?_)
  have hP : va_P (dC, dI) vwCl [(o_h, .inr (5, [.int o_players, .int o_bars, .ref o_price, .ref o_breath, .ref o_kind, .ref o_looks, .ref o_noise, .ref o_repeat, .ref o_now, .ref o_readPlayer, .ref o_readBar, .int o_readPlayers, .int o_readBars, .ref o_text, .int 0, .int o_at, .int o_faultAt, .int o_acts, .int o_next, .ref o_row, .int o_heard, .ref o_heardOf, .ref o_heardBars, .ref o_heardPlays, .int o_hushWho, .int o_hushSum, .long o_seed, .ref o_isKept, .ref o_kept]))] H := hP
  have hD : va_D A [(o_h, .inr (5, [.int o_players, .int o_bars, .ref o_price, .ref o_breath, .ref o_kind, .ref o_looks, .ref o_noise, .ref o_repeat, .ref o_now, .ref o_readPlayer, .ref o_readBar, .int o_readPlayers, .int o_readBars, .ref o_text, .int 0, .int o_at, .int o_faultAt, .int o_acts, .int o_next, .ref o_row, .int o_heard, .ref o_heardOf, .ref o_heardBars, .ref o_heardPlays, .int o_hushWho, .int o_hushSum, .long o_seed, .ref o_isKept, .ref o_kept]))] := hD
  refine lv_iload_n hx hb dX5_wipe_10 rfl (lv_at hl 0 rfl) ?_
  subst hu
  exact hg_ri hx hb hr hlk rfl hP hD hS dX5_wipe_11

set_option maxHeartbeats 4000000 in
set_option maxRecDepth 100000 in
theorem c_X5_write (l : Launch) (dC : Nat → ClassId) (dI : Nat → Nat → Nat) (cI cZ cM : ClassId) (sz : Nat) (o_h : Nat) (x0 : Int32) (o_players : Int32) (o_bars : Int32) (o_price : Nat) (o_breath : Nat) (o_kind : Nat) (o_looks : Nat) (o_noise : Nat) (o_repeat : Nat) (o_now : Nat) (o_readPlayer : Nat) (o_readBar : Nat) (o_readPlayers : Int32) (o_readBars : Int32) (o_text : Nat) (o_length : Int32) (o_at : Int32) (o_faultAt : Int32) (o_acts : Int32) (o_next : Int32) (o_row : Nat) (o_heard : Int32) (o_heardOf : Nat) (o_heardBars : Nat) (o_heardPlays : Nat) (o_hushWho : Int32) (o_hushSum : Int32) (o_seed : Int64) (o_isKept : Nat) (o_kept : Nat) (o_text_v : Nat → Int32) (np : Nat) (enp : o_players = nI np) (hnp : np ≤ 6) (nb : Nat) (enb : o_bars = nI nb) (hnb : nb ≤ 8) (nl : Nat) (enl : o_length = nI nl) (hnl : nl ≤ 56) (u : Int32 × Int32 × (Nat → Int32)) (hu : u = f_X5_write x0 o_length o_text_v) : Met l yX5_write wsX5_write { frames := 1, cells := 0, slots := 0, locals := 25 } (hgPc [.ref o_h, .int x0] (dC, dI) cI cZ cM [(o_h, .inr (5, [.int o_players, .int o_bars, .ref o_price, .ref o_breath, .ref o_kind, .ref o_looks, .ref o_noise, .ref o_repeat, .ref o_now, .ref o_readPlayer, .ref o_readBar, .int o_readPlayers, .int o_readBars, .ref o_text, .int o_length, .int o_at, .int o_faultAt, .int o_acts, .int o_next, .ref o_row, .int o_heard, .ref o_heardOf, .ref o_heardBars, .ref o_heardPlays, .int o_hushWho, .int o_hushSum, .long o_seed, .ref o_isKept, .ref o_kept])), (o_text, .inl (cI, 56, .inl o_text_v))] sz) (hgQi (dC, dI) u.1 [(o_h, .inr (5, [.int o_players, .int o_bars, .ref o_price, .ref o_breath, .ref o_kind, .ref o_looks, .ref o_noise, .ref o_repeat, .ref o_now, .ref o_readPlayer, .ref o_readBar, .int o_readPlayers, .int o_readBars, .ref o_text, .int u.2.1, .int o_at, .int o_faultAt, .int o_acts, .int o_next, .ref o_row, .int o_heard, .ref o_heardOf, .ref o_heardBars, .ref o_heardPlays, .int o_hushWho, .int o_hushSum, .long o_seed, .ref o_isKept, .ref o_kept])), (o_text, .inl (cI, 56, .inl u.2.2))] (va_A [(o_h, .inr (5, [.int o_players, .int o_bars, .ref o_price, .ref o_breath, .ref o_kind, .ref o_looks, .ref o_noise, .ref o_repeat, .ref o_now, .ref o_readPlayer, .ref o_readBar, .int o_readPlayers, .int o_readBars, .ref o_text, .int o_length, .int o_at, .int o_faultAt, .int o_acts, .int o_next, .ref o_row, .int o_heard, .ref o_heardOf, .ref o_heardBars, .ref o_heardPlays, .int o_hushWho, .int o_hushSum, .long o_seed, .ref o_isKept, .ref o_kept])), (o_text, .inl (cI, 56, .inl o_text_v))] sz)) 0 0 (va_A [(o_h, .inr (5, [.int o_players, .int o_bars, .ref o_price, .ref o_breath, .ref o_kind, .ref o_looks, .ref o_noise, .ref o_repeat, .ref o_now, .ref o_readPlayer, .ref o_readBar, .int o_readPlayers, .int o_readBars, .ref o_text, .int o_length, .int o_at, .int o_faultAt, .int o_acts, .int o_next, .ref o_row, .int o_heard, .ref o_heardOf, .ref o_heardBars, .ref o_heardPlays, .int o_hushWho, .int o_hushSum, .long o_seed, .ref o_isKept, .ref o_kept])), (o_text, .inl (cI, 56, .inl o_text_v))] sz) := by
  refine hg_ofW (cc := cX5_write) (maxL := 2) (ret := (some .int)) (own := RX5) (fun A => hgQi (dC, dI) u.1 [(o_h, .inr (5, [.int o_players, .int o_bars, .ref o_price, .ref o_breath, .ref o_kind, .ref o_looks, .ref o_noise, .ref o_repeat, .ref o_now, .ref o_readPlayer, .ref o_readBar, .int o_readPlayers, .int o_readBars, .ref o_text, .int u.2.1, .int o_at, .int o_faultAt, .int o_acts, .int o_next, .ref o_row, .int o_heard, .ref o_heardOf, .ref o_heardBars, .ref o_heardPlays, .int o_hushWho, .int o_hushSum, .long o_seed, .ref o_isKept, .ref o_kept])), (o_text, .inl (cI, 56, .inl u.2.2))] A) rfl (by decide) rfl (Nat.le_of_ble_eq_true rfl) ?_
  intro p e s m below meth c ls A hsz hx hb hr hml hown hts hlk hnm hK hN hA hP hD hS hl
  subst hsz
  have w1 := hts (.constantLong RX5 59 (255)) (List.mem_of_getElem? (i := 1) rfl)
  have w2 := hts (.fieldLink RX5 65 "HatGoesRoundModel" "length" "I") (List.mem_of_getElem? (i := 2) rfl)
  have hinX5 : ∀ w ∈ u_ws RX5 TX5 29, w ∈ wsX5_write := fun _ h => List.mem_cons_of_mem _ (List.mem_append_right _ h)
  have w3 := hts (.fieldLink RX5 37 "HatGoesRoundModel" "text" "[I") (List.mem_of_getElem? (i := 3) rfl)
  have hl : lv_has ls 2 [(0, .ref o_h), (1, .int x0)] := hl
  unfold f_X5_write at hu
  refine lv_iload_n hx hb dX5_write_0 rfl (lv_at hl 1 rfl) ?_
  refine lv_i2l (v := (Int32.toInt64 x0)) hx hb dX5_write_1 rfl ?_
  refine lv_lconst (v := 0) hx hb dX5_write_2 (by decide) ?_
  refine lv_ldc2 (v := 255) hx hb hown w1 dX5_write_3 ?_
  obtain ⟨r1, er1, hu⟩ := lxb_o hu
  refine hg_ci (va_runS (As := [.long (Int32.toInt64 x0), .long 0, .long 255]) (rest := []) ⟨hx, hb, hml, hown, hts⟩ (c_X5_in l dC dI cI cZ cM _ (Int32.toInt64 x0) 0 255 r1 er1) (va_cwS 3 hts gX5_write_X5_in rfl rfl rfl (by decide +kernel) ⟨Nat.le_of_ble_eq_true rfl, Nat.le_of_ble_eq_true rfl⟩) (hgPreS hP hD hK hN [] rfl rfl) rfl rfl hl.1 rfl (lv_room (Nat.le_of_ble_eq_true rfl)) dX5_write_6 ⟨Nat.zero_le _, Nat.zero_le _⟩) hP hD hS hA (wr := [(o_h, .inr (5, [.int o_players, .int o_bars, .ref o_price, .ref o_breath, .ref o_kind, .ref o_looks, .ref o_noise, .ref o_repeat, .ref o_now, .ref o_readPlayer, .ref o_readBar, .int o_readPlayers, .int o_readBars, .ref o_text, .int o_length, .int o_at, .int o_faultAt, .int o_acts, .int o_next, .ref o_row, .int o_heard, .ref o_heardOf, .ref o_heardBars, .ref o_heardPlays, .int o_hushWho, .int o_hushSum, .long o_seed, .ref o_isKept, .ref o_kept])), (o_text, .inl (cI, 56, .inl o_text_v))]) (wf := [(o_h, .inr (5, [.int o_players, .int o_bars, .ref o_price, .ref o_breath, .ref o_kind, .ref o_looks, .ref o_noise, .ref o_repeat, .ref o_now, .ref o_readPlayer, .ref o_readBar, .int o_readPlayers, .int o_readBars, .ref o_text, .int o_length, .int o_at, .int o_faultAt, .int o_acts, .int o_next, .ref o_row, .int o_heard, .ref o_heardOf, .ref o_heardBars, .ref o_heardPlays, .int o_hushWho, .int o_hushSum, .long o_seed, .ref o_isKept, .ref o_kept])), (o_text, .inl (cI, 56, .inl o_text_v))]) [] [0, 1] [0, 1] rfl rfl rfl (by decide) rfl rfl (fun H locs hP hD hS => ?_)
  refine lv_if_ne (tgt := 15) hx hb dX5_write_9 (by decide) (fun c_9 => ?_) (fun c_9 => ?_)
  · have hu := hu.trans (if_neg c_9)
    refine lv_aload_n hx hb dX5_write_15 rfl (lv_at hl 0 rfl) ?_
    refine va_get (D := (dC, dI)) (ci := 5) (v := .int o_length) (C := RX5) (T := TX5) (N := 29) hx hb hts hinX5 hown hK hP 0 rfl rfl 14 (by decide) w2 (fun _ h9 => h9) rfl dX5_write_16 ?_
    refine lv_bipush (v := 56) hx hb dX5_write_19 (by decide) ?_
    refine lv_icmp_ne (tgt := 27) hx hb dX5_write_21 (by decide) (fun c_21 => ?_) (fun c_21 => ?_)
    · have hu := hu.trans (if_neg c_21)
      have hnl2 : nl < 56 := hg_ltN enl hnl c_21
      refine lv_aload_n hx hb dX5_write_27 rfl (lv_at hl 0 rfl) ?_
      refine va_get (D := (dC, dI)) (ci := 5) (v := .ref o_text) (C := RX5) (T := TX5) (N := 29) hx hb hts hinX5 hown hK hP 0 rfl rfl 13 (by decide) w3 (fun _ h9 => h9) rfl dX5_write_28 ?_
      refine lv_aload_n hx hb dX5_write_31 rfl (lv_at hl 0 rfl) ?_
      refine va_get (D := (dC, dI)) (ci := 5) (v := .int o_length) (C := RX5) (T := TX5) (N := 29) hx hb hts hinX5 hown hK hP 0 rfl rfl 14 (by decide) w2 (fun _ h9 => h9) rfl dX5_write_32 ?_
      refine lv_iload_n hx hb dX5_write_35 rfl (lv_at hl 1 rfl) ?_
      refine va_iast hx hb hK hP hD hS 1 0 rfl rfl (n := 56) (f := o_text_v) (hg_in (n := nl) (N := 56) enl (by omega) (by decide)) dX5_write_36 (fun H locs hP hD hS => ?_)
      have hP : va_P (dC, dI) vwCl [(o_h, .inr (5, [.int o_players, .int o_bars, .ref o_price, .ref o_breath, .ref o_kind, .ref o_looks, .ref o_noise, .ref o_repeat, .ref o_now, .ref o_readPlayer, .ref o_readBar, .int o_readPlayers, .int o_readBars, .ref o_text, .int o_length, .int o_at, .int o_faultAt, .int o_acts, .int o_next, .ref o_row, .int o_heard, .ref o_heardOf, .ref o_heardBars, .ref o_heardPlays, .int o_hushWho, .int o_hushSum, .long o_seed, .ref o_isKept, .ref o_kept])), (o_text, .inl (cI, 56, .inl (upd o_text_v (Int32.toNatClampNeg o_length) x0)))] H := hP
      have hD : va_D A [(o_h, .inr (5, [.int o_players, .int o_bars, .ref o_price, .ref o_breath, .ref o_kind, .ref o_looks, .ref o_noise, .ref o_repeat, .ref o_now, .ref o_readPlayer, .ref o_readBar, .int o_readPlayers, .int o_readBars, .ref o_text, .int o_length, .int o_at, .int o_faultAt, .int o_acts, .int o_next, .ref o_row, .int o_heard, .ref o_heardOf, .ref o_heardBars, .ref o_heardPlays, .int o_hushWho, .int o_hushSum, .long o_seed, .ref o_isKept, .ref o_kept])), (o_text, .inl (cI, 56, .inl (upd o_text_v (Int32.toNatClampNeg o_length) x0)))] := hD
      refine lv_aload_n hx hb dX5_write_37 rfl (lv_at hl 0 rfl) ?_
      refine lv_dup hx hb dX5_write_38 rfl ?_
      refine va_get (D := (dC, dI)) (ci := 5) (v := .int o_length) (C := RX5) (T := TX5) (N := 29) hx hb hts hinX5 hown hK hP 0 rfl rfl 14 (by decide) w2 (fun _ h9 => h9) rfl dX5_write_39 ?_
      refine lv_iconst (v := 1) hx hb dX5_write_42 (by decide) ?_
      refine lv_iadd hx hb dX5_write_43 ?_
      refine va_put (D := (dC, dI)) (ci := 5) (v := .int (o_length + 1)) (ty := .int) (C := RX5) (T := TX5) (N := 29) hx hb hts hinX5 tyX5 tyX5_ok nmX5 hown hK hP hD hS 0 rfl rfl 14 (by decide) w2 (fun _ h9 => h9) rfl (by decide +kernel) rfl rfl (Nat.le_of_ble_eq_true rfl) dX5_write_44 (fun H locs hP hD hS => ?_)
      have hP : va_P (dC, dI) vwCl [(o_h, .inr (5, [.int o_players, .int o_bars, .ref o_price, .ref o_breath, .ref o_kind, .ref o_looks, .ref o_noise, .ref o_repeat, .ref o_now, .ref o_readPlayer, .ref o_readBar, .int o_readPlayers, .int o_readBars, .ref o_text, .int (o_length + 1), .int o_at, .int o_faultAt, .int o_acts, .int o_next, .ref o_row, .int o_heard, .ref o_heardOf, .ref o_heardBars, .ref o_heardPlays, .int o_hushWho, .int o_hushSum, .long o_seed, .ref o_isKept, .ref o_kept])), (o_text, .inl (cI, 56, .inl (upd o_text_v (Int32.toNatClampNeg o_length) x0)))] H := hP
      have hD : va_D A [(o_h, .inr (5, [.int o_players, .int o_bars, .ref o_price, .ref o_breath, .ref o_kind, .ref o_looks, .ref o_noise, .ref o_repeat, .ref o_now, .ref o_readPlayer, .ref o_readBar, .int o_readPlayers, .int o_readBars, .ref o_text, .int (o_length + 1), .int o_at, .int o_faultAt, .int o_acts, .int o_next, .ref o_row, .int o_heard, .ref o_heardOf, .ref o_heardBars, .ref o_heardPlays, .int o_hushWho, .int o_hushSum, .long o_seed, .ref o_isKept, .ref o_kept])), (o_text, .inl (cI, 56, .inl (upd o_text_v (Int32.toNatClampNeg o_length) x0)))] := hD
      refine lv_aload_n hx hb dX5_write_47 rfl (lv_at hl 0 rfl) ?_
      refine va_get (D := (dC, dI)) (ci := 5) (v := .int (o_length + 1)) (C := RX5) (T := TX5) (N := 29) hx hb hts hinX5 hown hK hP 0 rfl rfl 14 (by decide) w2 (fun _ h9 => h9) rfl dX5_write_48 ?_
      subst hu
      exact hg_ri hx hb hr hlk rfl hP hD hS dX5_write_51
    · have hu := hu.trans (if_pos c_21)
      refine lv_bipush (v := (-4)) hx hb dX5_write_24 (by decide) ?_
      subst hu
      exact hg_ri hx hb hr hlk rfl hP hD hS dX5_write_26
  · have hu := hu.trans (if_pos c_9)
    refine lv_bipush (v := (-2)) hx hb dX5_write_12 (by decide) ?_
    subst hu
    exact hg_ri hx hb hr hlk rfl hP hD hS dX5_write_14

set_option maxHeartbeats 4000000 in
set_option maxRecDepth 100000 in
theorem c_X5_figureOf (l : Launch) (dC : Nat → ClassId) (dI : Nat → Nat → Nat) (cI cZ cM : ClassId) (sz : Nat) (o_h : Nat) (x0 : Int32) (x1 : Int32) (o_players : Int32) (o_bars : Int32) (o_price : Nat) (o_breath : Nat) (o_kind : Nat) (o_looks : Nat) (o_noise : Nat) (o_repeat : Nat) (o_now : Nat) (o_readPlayer : Nat) (o_readBar : Nat) (o_readPlayers : Int32) (o_readBars : Int32) (o_text : Nat) (o_length : Int32) (o_at : Int32) (o_faultAt : Int32) (o_acts : Int32) (o_next : Int32) (o_row : Nat) (o_heard : Int32) (o_heardOf : Nat) (o_heardBars : Nat) (o_heardPlays : Nat) (o_hushWho : Int32) (o_hushSum : Int32) (o_seed : Int64) (o_isKept : Nat) (o_kept : Nat) (o_text_v : Nat → Int32) (np : Nat) (enp : o_players = nI np) (hnp : np ≤ 6) (nb : Nat) (enb : o_bars = nI nb) (hnb : nb ≤ 8) (ta : Nat) (eta : o_at = nI ta) (hta : ta ≤ 100) (nl : Nat) (enl : o_length = nI nl) (hnl : nl ≤ 56) (u : Int32 × Int32 × Int32) (hu : u = f_X5_figureOf x0 x1 o_length o_at o_faultAt o_text_v) : Met l yX5_figureOf wsX5_figureOf { frames := 1, cells := 0, slots := 0, locals := 25 } (hgPc [.ref o_h, .int x0, .int x1] (dC, dI) cI cZ cM [(o_h, .inr (5, [.int o_players, .int o_bars, .ref o_price, .ref o_breath, .ref o_kind, .ref o_looks, .ref o_noise, .ref o_repeat, .ref o_now, .ref o_readPlayer, .ref o_readBar, .int o_readPlayers, .int o_readBars, .ref o_text, .int o_length, .int o_at, .int o_faultAt, .int o_acts, .int o_next, .ref o_row, .int o_heard, .ref o_heardOf, .ref o_heardBars, .ref o_heardPlays, .int o_hushWho, .int o_hushSum, .long o_seed, .ref o_isKept, .ref o_kept])), (o_text, .inl (cI, 56, .inl o_text_v))] sz) (hgQi (dC, dI) u.1 [(o_h, .inr (5, [.int o_players, .int o_bars, .ref o_price, .ref o_breath, .ref o_kind, .ref o_looks, .ref o_noise, .ref o_repeat, .ref o_now, .ref o_readPlayer, .ref o_readBar, .int o_readPlayers, .int o_readBars, .ref o_text, .int o_length, .int u.2.1, .int u.2.2, .int o_acts, .int o_next, .ref o_row, .int o_heard, .ref o_heardOf, .ref o_heardBars, .ref o_heardPlays, .int o_hushWho, .int o_hushSum, .long o_seed, .ref o_isKept, .ref o_kept])), (o_text, .inl (cI, 56, .inl o_text_v))] (va_A [(o_h, .inr (5, [.int o_players, .int o_bars, .ref o_price, .ref o_breath, .ref o_kind, .ref o_looks, .ref o_noise, .ref o_repeat, .ref o_now, .ref o_readPlayer, .ref o_readBar, .int o_readPlayers, .int o_readBars, .ref o_text, .int o_length, .int o_at, .int o_faultAt, .int o_acts, .int o_next, .ref o_row, .int o_heard, .ref o_heardOf, .ref o_heardBars, .ref o_heardPlays, .int o_hushWho, .int o_hushSum, .long o_seed, .ref o_isKept, .ref o_kept])), (o_text, .inl (cI, 56, .inl o_text_v))] sz)) 0 0 (va_A [(o_h, .inr (5, [.int o_players, .int o_bars, .ref o_price, .ref o_breath, .ref o_kind, .ref o_looks, .ref o_noise, .ref o_repeat, .ref o_now, .ref o_readPlayer, .ref o_readBar, .int o_readPlayers, .int o_readBars, .ref o_text, .int o_length, .int o_at, .int o_faultAt, .int o_acts, .int o_next, .ref o_row, .int o_heard, .ref o_heardOf, .ref o_heardBars, .ref o_heardPlays, .int o_hushWho, .int o_hushSum, .long o_seed, .ref o_isKept, .ref o_kept])), (o_text, .inl (cI, 56, .inl o_text_v))] sz) := by
  refine hg_ofW (cc := cX5_figureOf) (maxL := 5) (ret := (some .int)) (own := RX5) (fun A => hgQi (dC, dI) u.1 [(o_h, .inr (5, [.int o_players, .int o_bars, .ref o_price, .ref o_breath, .ref o_kind, .ref o_looks, .ref o_noise, .ref o_repeat, .ref o_now, .ref o_readPlayer, .ref o_readBar, .int o_readPlayers, .int o_readBars, .ref o_text, .int o_length, .int u.2.1, .int u.2.2, .int o_acts, .int o_next, .ref o_row, .int o_heard, .ref o_heardOf, .ref o_heardBars, .ref o_heardPlays, .int o_hushWho, .int o_hushSum, .long o_seed, .ref o_isKept, .ref o_kept])), (o_text, .inl (cI, 56, .inl o_text_v))] A) rfl (by decide) rfl (Nat.le_of_ble_eq_true rfl) ?_
  intro p e s m below meth c ls A hsz hx hb hr hml hown hts hlk hnm hK hN hA hP hD hS hl
  subst hsz
  have w1 := hts (.fieldLink RX5 69 "HatGoesRoundModel" "faultAt" "I") (List.mem_of_getElem? (i := 1) rfl)
  have hinX5 : ∀ w ∈ u_ws RX5 TX5 29, w ∈ wsX5_figureOf := fun _ h => List.mem_cons_of_mem _ (List.mem_append_right _ h)
  have w2 := hts (.fieldLink RX5 72 "HatGoesRoundModel" "at" "I") (List.mem_of_getElem? (i := 2) rfl)
  have w3 := hts (.fieldLink RX5 65 "HatGoesRoundModel" "length" "I") (List.mem_of_getElem? (i := 3) rfl)
  have w4 := hts (.fieldLink RX5 37 "HatGoesRoundModel" "text" "[I") (List.mem_of_getElem? (i := 4) rfl)
  have hl : lv_has ls 5 [(0, .ref o_h), (1, .int x0), (2, .int x1)] := hl
  unfold f_X5_figureOf at hu
  refine lv_aload_n hx hb dX5_figureOf_0 rfl (lv_at hl 0 rfl) ?_
  refine va_get (D := (dC, dI)) (ci := 5) (v := .int o_faultAt) (C := RX5) (T := TX5) (N := 29) hx hb hts hinX5 hown hK hP 0 rfl rfl 16 (by decide) w1 (fun _ h9 => h9) rfl dX5_figureOf_1 ?_
  refine lv_bipush (v := (-9)) hx hb dX5_figureOf_4 (by decide) ?_
  refine lv_icmp_ne (tgt := 24) hx hb dX5_figureOf_6 (by decide) (fun c_6 => ?_) (fun c_6 => ?_)
  · have hu := hu.trans (if_neg c_6)
    refine lv_iconst (v := 0) hx hb dX5_figureOf_24 (by decide) ?_
    refine lv_istore_n (lv' := [(3, .int 0), (0, .ref o_h), (1, .int x0), (2, .int x1)]) hx hb dX5_figureOf_25 rfl hl (by decide) rfl (fun ls hl => ?_)
    refine lv_iload_n hx hb dX5_figureOf_26 rfl (lv_at hl 0 rfl) ?_
    refine lv_if_eq (tgt := 45) hx hb dX5_figureOf_27 (by decide) (fun c_27 => ?_) (fun c_27 => absurd (by decide) c_27)
    refine lv_iconst (v := 0) hx hb dX5_figureOf_45 (by decide) ?_
    refine lv_istore (lv' := [(4, .int 0), (3, .int 0), (0, .ref o_h), (1, .int x0), (2, .int x1)]) hx hb dX5_figureOf_46 hl (by decide) rfl (fun ls hl => ?_)
    refine lv_iload_n hx hb dX5_figureOf_48 rfl (lv_at hl 1 rfl) ?_
    refine lv_if_eq (tgt := 65) hx hb dX5_figureOf_49 (by decide) (fun c_49 => ?_) (fun c_49 => absurd (by decide) c_49)
    refine lv_aload_n hx hb dX5_figureOf_65 rfl (lv_at hl 2 rfl) ?_
    refine lv_aload_n hx hb dX5_figureOf_66 rfl (lv_at hl 2 rfl) ?_
    refine va_get (D := (dC, dI)) (ci := 5) (v := .int o_faultAt) (C := RX5) (T := TX5) (N := 29) hx hb hts hinX5 hown hK hP 0 rfl rfl 16 (by decide) w1 (fun _ h9 => h9) rfl dX5_figureOf_67 ?_
    refine lv_bipush (v := (-9)) hx hb dX5_figureOf_70 (by decide) ?_
    obtain ⟨z1, ez1, hu⟩ := lxb_o hu
    refine hg_cut (D := (dC, dI)) (A0 := A) (H0 := s.heap) (ws := [(o_h, .inr (5, [.int o_players, .int o_bars, .ref o_price, .ref o_breath, .ref o_kind, .ref o_looks, .ref o_noise, .ref o_repeat, .ref o_now, .ref o_readPlayer, .ref o_readBar, .int o_readPlayers, .int o_readBars, .ref o_text, .int o_length, .int o_at, .int o_faultAt, .int o_acts, .int o_next, .ref o_row, .int o_heard, .ref o_heardOf, .ref o_heardBars, .ref o_heardPlays, .int o_hushWho, .int o_hushSum, .long o_seed, .ref o_isKept, .ref o_kept])), (o_text, .inl (cI, 56, .inl o_text_v))]) (g := F0 m 86 ls [.int z1, .ref o_h]) ?_ (fun hJ => ?_)
    · intro H locs hP hD hS
      refine va_put (D := (dC, dI)) (ci := 5) (v := .int z1) (ty := .int) (C := RX5) (T := TX5) (N := 29) hx hb hts hinX5 tyX5 tyX5_ok nmX5 hown hK hP hD hS 0 rfl rfl 16 (by decide) w1 (fun _ h9 => h9) rfl (by decide +kernel) rfl rfl (Nat.le_of_ble_eq_true rfl) dX5_figureOf_86 (fun H locs hP hD hS => ?_)
      have hP : va_P (dC, dI) vwCl [(o_h, .inr (5, [.int o_players, .int o_bars, .ref o_price, .ref o_breath, .ref o_kind, .ref o_looks, .ref o_noise, .ref o_repeat, .ref o_now, .ref o_readPlayer, .ref o_readBar, .int o_readPlayers, .int o_readBars, .ref o_text, .int o_length, .int o_at, .int z1, .int o_acts, .int o_next, .ref o_row, .int o_heard, .ref o_heardOf, .ref o_heardBars, .ref o_heardPlays, .int o_hushWho, .int o_hushSum, .long o_seed, .ref o_isKept, .ref o_kept])), (o_text, .inl (cI, 56, .inl o_text_v))] H := hP
      have hD : va_D A [(o_h, .inr (5, [.int o_players, .int o_bars, .ref o_price, .ref o_breath, .ref o_kind, .ref o_looks, .ref o_noise, .ref o_repeat, .ref o_now, .ref o_readPlayer, .ref o_readBar, .int o_readPlayers, .int o_readBars, .ref o_text, .int o_length, .int o_at, .int z1, .int o_acts, .int o_next, .ref o_row, .int o_heard, .ref o_heardOf, .ref o_heardBars, .ref o_heardPlays, .int o_hushWho, .int o_hushSum, .long o_seed, .ref o_isKept, .ref o_kept])), (o_text, .inl (cI, 56, .inl o_text_v))] := hD
      refine lv_iconst (v := 0) hx hb dX5_figureOf_89 (by decide) ?_
      subst hu
      exact hg_ri hx hb hr hlk rfl hP hD hS dX5_figureOf_90
    · refine lv_icmp_ne (tgt := 82) hx hb dX5_figureOf_72 (by decide) (fun c_72 => ?_) (fun c_72 => ?_)
      · have ez1 := ez1.trans (if_neg c_72)
        refine lv_aload_n hx hb dX5_figureOf_82 rfl (lv_at hl 2 rfl) ?_
        refine va_get (D := (dC, dI)) (ci := 5) (v := .int o_faultAt) (C := RX5) (T := TX5) (N := 29) hx hb hts hinX5 hown hK hP 0 rfl rfl 16 (by decide) w1 (fun _ h9 => h9) rfl dX5_figureOf_83 ?_
        subst ez1
        exact hJ _ _ hP hD hS
      · have ez1 := ez1.trans (if_pos c_72)
        refine lv_aload_n hx hb dX5_figureOf_75 rfl (lv_at hl 2 rfl) ?_
        refine va_get (D := (dC, dI)) (ci := 5) (v := .int o_at) (C := RX5) (T := TX5) (N := 29) hx hb hts hinX5 hown hK hP 0 rfl rfl 15 (by decide) w2 (fun _ h9 => h9) rfl dX5_figureOf_76 ?_
        refine lv_goto (tgt := 86) hx hb dX5_figureOf_79 (by decide) ?_
        subst ez1
        exact hJ _ _ hP hD hS
  · have hu := hu.trans (if_pos c_6)
    refine lv_aload_n hx hb dX5_figureOf_9 rfl (lv_at hl 0 rfl) ?_
    refine va_get (D := (dC, dI)) (ci := 5) (v := .int o_at) (C := RX5) (T := TX5) (N := 29) hx hb hts hinX5 hown hK hP 0 rfl rfl 15 (by decide) w2 (fun _ h9 => h9) rfl dX5_figureOf_10 ?_
    refine lv_aload_n hx hb dX5_figureOf_13 rfl (lv_at hl 0 rfl) ?_
    refine va_get (D := (dC, dI)) (ci := 5) (v := .int o_length) (C := RX5) (T := TX5) (N := 29) hx hb hts hinX5 hown hK hP 0 rfl rfl 14 (by decide) w3 (fun _ h9 => h9) rfl dX5_figureOf_14 ?_
    refine lv_icmp_ge (tgt := 24) hx hb dX5_figureOf_17 (by decide) (fun c_17 => ?_) (fun c_17 => ?_)
    · have hu := hu.trans (if_pos c_17)
      refine lv_iconst (v := 0) hx hb dX5_figureOf_24 (by decide) ?_
      refine lv_istore_n (lv' := [(3, .int 0), (0, .ref o_h), (1, .int x0), (2, .int x1)]) hx hb dX5_figureOf_25 rfl hl (by decide) rfl (fun ls hl => ?_)
      refine lv_iload_n hx hb dX5_figureOf_26 rfl (lv_at hl 0 rfl) ?_
      refine lv_if_eq (tgt := 45) hx hb dX5_figureOf_27 (by decide) (fun c_27 => ?_) (fun c_27 => absurd (by decide) c_27)
      refine lv_iconst (v := 0) hx hb dX5_figureOf_45 (by decide) ?_
      refine lv_istore (lv' := [(4, .int 0), (3, .int 0), (0, .ref o_h), (1, .int x0), (2, .int x1)]) hx hb dX5_figureOf_46 hl (by decide) rfl (fun ls hl => ?_)
      refine lv_iload_n hx hb dX5_figureOf_48 rfl (lv_at hl 1 rfl) ?_
      refine lv_if_eq (tgt := 65) hx hb dX5_figureOf_49 (by decide) (fun c_49 => ?_) (fun c_49 => absurd (by decide) c_49)
      refine lv_aload_n hx hb dX5_figureOf_65 rfl (lv_at hl 2 rfl) ?_
      refine lv_aload_n hx hb dX5_figureOf_66 rfl (lv_at hl 2 rfl) ?_
      refine va_get (D := (dC, dI)) (ci := 5) (v := .int o_faultAt) (C := RX5) (T := TX5) (N := 29) hx hb hts hinX5 hown hK hP 0 rfl rfl 16 (by decide) w1 (fun _ h9 => h9) rfl dX5_figureOf_67 ?_
      refine lv_bipush (v := (-9)) hx hb dX5_figureOf_70 (by decide) ?_
      obtain ⟨z2, ez2, hu⟩ := lxb_o hu
      refine hg_cut (D := (dC, dI)) (A0 := A) (H0 := s.heap) (ws := [(o_h, .inr (5, [.int o_players, .int o_bars, .ref o_price, .ref o_breath, .ref o_kind, .ref o_looks, .ref o_noise, .ref o_repeat, .ref o_now, .ref o_readPlayer, .ref o_readBar, .int o_readPlayers, .int o_readBars, .ref o_text, .int o_length, .int o_at, .int o_faultAt, .int o_acts, .int o_next, .ref o_row, .int o_heard, .ref o_heardOf, .ref o_heardBars, .ref o_heardPlays, .int o_hushWho, .int o_hushSum, .long o_seed, .ref o_isKept, .ref o_kept])), (o_text, .inl (cI, 56, .inl o_text_v))]) (g := F0 m 86 ls [.int z2, .ref o_h]) ?_ (fun hJ => ?_)
      · intro H locs hP hD hS
        refine va_put (D := (dC, dI)) (ci := 5) (v := .int z2) (ty := .int) (C := RX5) (T := TX5) (N := 29) hx hb hts hinX5 tyX5 tyX5_ok nmX5 hown hK hP hD hS 0 rfl rfl 16 (by decide) w1 (fun _ h9 => h9) rfl (by decide +kernel) rfl rfl (Nat.le_of_ble_eq_true rfl) dX5_figureOf_86 (fun H locs hP hD hS => ?_)
        have hP : va_P (dC, dI) vwCl [(o_h, .inr (5, [.int o_players, .int o_bars, .ref o_price, .ref o_breath, .ref o_kind, .ref o_looks, .ref o_noise, .ref o_repeat, .ref o_now, .ref o_readPlayer, .ref o_readBar, .int o_readPlayers, .int o_readBars, .ref o_text, .int o_length, .int o_at, .int z2, .int o_acts, .int o_next, .ref o_row, .int o_heard, .ref o_heardOf, .ref o_heardBars, .ref o_heardPlays, .int o_hushWho, .int o_hushSum, .long o_seed, .ref o_isKept, .ref o_kept])), (o_text, .inl (cI, 56, .inl o_text_v))] H := hP
        have hD : va_D A [(o_h, .inr (5, [.int o_players, .int o_bars, .ref o_price, .ref o_breath, .ref o_kind, .ref o_looks, .ref o_noise, .ref o_repeat, .ref o_now, .ref o_readPlayer, .ref o_readBar, .int o_readPlayers, .int o_readBars, .ref o_text, .int o_length, .int o_at, .int z2, .int o_acts, .int o_next, .ref o_row, .int o_heard, .ref o_heardOf, .ref o_heardBars, .ref o_heardPlays, .int o_hushWho, .int o_hushSum, .long o_seed, .ref o_isKept, .ref o_kept])), (o_text, .inl (cI, 56, .inl o_text_v))] := hD
        refine lv_iconst (v := 0) hx hb dX5_figureOf_89 (by decide) ?_
        subst hu
        exact hg_ri hx hb hr hlk rfl hP hD hS dX5_figureOf_90
      · refine lv_icmp_ne (tgt := 82) hx hb dX5_figureOf_72 (by decide) (fun c_72 => ?_) (fun c_72 => ?_)
        · have ez2 := ez2.trans (if_neg c_72)
          refine lv_aload_n hx hb dX5_figureOf_82 rfl (lv_at hl 2 rfl) ?_
          refine va_get (D := (dC, dI)) (ci := 5) (v := .int o_faultAt) (C := RX5) (T := TX5) (N := 29) hx hb hts hinX5 hown hK hP 0 rfl rfl 16 (by decide) w1 (fun _ h9 => h9) rfl dX5_figureOf_83 ?_
          subst ez2
          exact hJ _ _ hP hD hS
        · have ez2 := ez2.trans (if_pos c_72)
          refine lv_aload_n hx hb dX5_figureOf_75 rfl (lv_at hl 2 rfl) ?_
          refine va_get (D := (dC, dI)) (ci := 5) (v := .int o_at) (C := RX5) (T := TX5) (N := 29) hx hb hts hinX5 hown hK hP 0 rfl rfl 15 (by decide) w2 (fun _ h9 => h9) rfl dX5_figureOf_76 ?_
          refine lv_goto (tgt := 86) hx hb dX5_figureOf_79 (by decide) ?_
          subst ez2
          exact hJ _ _ hP hD hS
    · have hu := hu.trans (if_neg c_17)
      have hal : ta < nl := hg_nltN eta enl (by omega) (by omega) c_17
      refine lv_iconst (v := 1) hx hb dX5_figureOf_20 (by decide) ?_
      refine lv_goto (tgt := 25) hx hb dX5_figureOf_21 (by decide) ?_
      refine lv_istore_n (lv' := [(3, .int 1), (0, .ref o_h), (1, .int x0), (2, .int x1)]) hx hb dX5_figureOf_25 rfl hl (by decide) rfl (fun ls hl => ?_)
      refine lv_iload_n hx hb dX5_figureOf_26 rfl (lv_at hl 0 rfl) ?_
      refine lv_if_eq (tgt := 45) hx hb dX5_figureOf_27 (by decide) (fun c_27 => absurd c_27 (by decide)) (fun c_27 => ?_)
      refine lv_aload_n hx hb dX5_figureOf_30 rfl (lv_at hl 1 rfl) ?_
      refine va_get (D := (dC, dI)) (ci := 5) (v := .ref o_text) (C := RX5) (T := TX5) (N := 29) hx hb hts hinX5 hown hK hP 0 rfl rfl 13 (by decide) w4 (fun _ h9 => h9) rfl dX5_figureOf_31 ?_
      refine lv_aload_n hx hb dX5_figureOf_34 rfl (lv_at hl 1 rfl) ?_
      refine va_get (D := (dC, dI)) (ci := 5) (v := .int o_at) (C := RX5) (T := TX5) (N := 29) hx hb hts hinX5 hown hK hP 0 rfl rfl 15 (by decide) w2 (fun _ h9 => h9) rfl dX5_figureOf_35 ?_
      refine va_iald hx hb hK hP 1 0 rfl rfl (n := 56) (f := o_text_v) (hg_in (n := ta) (N := 56) eta (by omega) (by decide)) dX5_figureOf_38 ?_
      refine lv_bipush (v := 48) hx hb dX5_figureOf_39 (by decide) ?_
      refine lv_isub hx hb dX5_figureOf_41 ?_
      refine lv_goto (tgt := 46) hx hb dX5_figureOf_42 (by decide) ?_
      obtain ⟨y3, ey3, hu⟩ := lxb_o hu
      refine lv_topi (fun z ez => ?_)
      obtain rfl : y3 = z := ey3.trans ez.symm
      refine lv_istore (lv' := [(4, .int y3), (3, .int 1), (0, .ref o_h), (1, .int x0), (2, .int x1)]) hx hb dX5_figureOf_46 hl (by decide) rfl (fun ls hl => ?_)
      refine lv_iload_n hx hb dX5_figureOf_48 rfl (lv_at hl 1 rfl) ?_
      refine lv_if_eq (tgt := 65) hx hb dX5_figureOf_49 (by decide) (fun c_49 => absurd c_49 (by decide)) (fun c_49 => ?_)
      refine lv_iload hx hb dX5_figureOf_52 (lv_at hl 0 rfl) ?_
      refine lv_i2l (v := (Int32.toInt64 y3)) hx hb dX5_figureOf_54 rfl ?_
      refine lv_iload_n hx hb dX5_figureOf_55 rfl (lv_at hl 3 rfl) ?_
      refine lv_i2l (v := (Int32.toInt64 x0)) hx hb dX5_figureOf_56 rfl ?_
      refine lv_iload_n hx hb dX5_figureOf_57 rfl (lv_at hl 4 rfl) ?_
      refine lv_i2l (v := (Int32.toInt64 x1)) hx hb dX5_figureOf_58 rfl ?_
      obtain ⟨r4, er4, hu⟩ := lxb_o hu
      refine hg_ci (va_runS (As := [.long (Int32.toInt64 y3), .long (Int32.toInt64 x0), .long (Int32.toInt64 x1)]) (rest := []) ⟨hx, hb, hml, hown, hts⟩ (c_X5_in l dC dI cI cZ cM _ (Int32.toInt64 y3) (Int32.toInt64 x0) (Int32.toInt64 x1) r4 er4) (va_cwS 3 hts gX5_figureOf_X5_in rfl rfl rfl (by decide +kernel) ⟨Nat.le_of_ble_eq_true rfl, Nat.le_of_ble_eq_true rfl⟩) (hgPreS hP hD hK hN [] rfl rfl) rfl rfl hl.1 rfl (lv_room (Nat.le_of_ble_eq_true rfl)) dX5_figureOf_59 ⟨Nat.zero_le _, Nat.zero_le _⟩) hP hD hS hA (wr := [(o_h, .inr (5, [.int o_players, .int o_bars, .ref o_price, .ref o_breath, .ref o_kind, .ref o_looks, .ref o_noise, .ref o_repeat, .ref o_now, .ref o_readPlayer, .ref o_readBar, .int o_readPlayers, .int o_readBars, .ref o_text, .int o_length, .int o_at, .int o_faultAt, .int o_acts, .int o_next, .ref o_row, .int o_heard, .ref o_heardOf, .ref o_heardBars, .ref o_heardPlays, .int o_hushWho, .int o_hushSum, .long o_seed, .ref o_isKept, .ref o_kept])), (o_text, .inl (cI, 56, .inl o_text_v))]) (wf := [(o_h, .inr (5, [.int o_players, .int o_bars, .ref o_price, .ref o_breath, .ref o_kind, .ref o_looks, .ref o_noise, .ref o_repeat, .ref o_now, .ref o_readPlayer, .ref o_readBar, .int o_readPlayers, .int o_readBars, .ref o_text, .int o_length, .int o_at, .int o_faultAt, .int o_acts, .int o_next, .ref o_row, .int o_heard, .ref o_heardOf, .ref o_heardBars, .ref o_heardPlays, .int o_hushWho, .int o_hushSum, .long o_seed, .ref o_isKept, .ref o_kept])), (o_text, .inl (cI, 56, .inl o_text_v))]) [] [0, 1] [0, 1] rfl rfl rfl (by decide) rfl rfl (fun H locs hP hD hS => ?_)
      refine lv_if_ne (tgt := 91) hx hb dX5_figureOf_62 (by decide) (fun c_62 => ?_) (fun c_62 => ?_)
      · have hu := hu.trans (if_neg c_62)
        refine lv_aload_n hx hb dX5_figureOf_91 rfl (lv_at hl 2 rfl) ?_
        refine lv_dup hx hb dX5_figureOf_92 rfl ?_
        refine va_get (D := (dC, dI)) (ci := 5) (v := .int o_at) (C := RX5) (T := TX5) (N := 29) hx hb hts hinX5 hown hK hP 0 rfl rfl 15 (by decide) w2 (fun _ h9 => h9) rfl dX5_figureOf_93 ?_
        refine lv_iconst (v := 1) hx hb dX5_figureOf_96 (by decide) ?_
        refine lv_iadd hx hb dX5_figureOf_97 ?_
        refine va_put (D := (dC, dI)) (ci := 5) (v := .int (o_at + 1)) (ty := .int) (C := RX5) (T := TX5) (N := 29) hx hb hts hinX5 tyX5 tyX5_ok nmX5 hown hK hP hD hS 0 rfl rfl 15 (by decide) w2 (fun _ h9 => h9) rfl (by decide +kernel) rfl rfl (Nat.le_of_ble_eq_true rfl) dX5_figureOf_98 (fun H locs hP hD hS => ?_)
        have hP : va_P (dC, dI) vwCl [(o_h, .inr (5, [.int o_players, .int o_bars, .ref o_price, .ref o_breath, .ref o_kind, .ref o_looks, .ref o_noise, .ref o_repeat, .ref o_now, .ref o_readPlayer, .ref o_readBar, .int o_readPlayers, .int o_readBars, .ref o_text, .int o_length, .int (o_at + 1), .int o_faultAt, .int o_acts, .int o_next, .ref o_row, .int o_heard, .ref o_heardOf, .ref o_heardBars, .ref o_heardPlays, .int o_hushWho, .int o_hushSum, .long o_seed, .ref o_isKept, .ref o_kept])), (o_text, .inl (cI, 56, .inl o_text_v))] H := hP
        have hD : va_D A [(o_h, .inr (5, [.int o_players, .int o_bars, .ref o_price, .ref o_breath, .ref o_kind, .ref o_looks, .ref o_noise, .ref o_repeat, .ref o_now, .ref o_readPlayer, .ref o_readBar, .int o_readPlayers, .int o_readBars, .ref o_text, .int o_length, .int (o_at + 1), .int o_faultAt, .int o_acts, .int o_next, .ref o_row, .int o_heard, .ref o_heardOf, .ref o_heardBars, .ref o_heardPlays, .int o_hushWho, .int o_hushSum, .long o_seed, .ref o_isKept, .ref o_kept])), (o_text, .inl (cI, 56, .inl o_text_v))] := hD
        refine lv_iload hx hb dX5_figureOf_101 (lv_at hl 0 rfl) ?_
        subst hu
        exact hg_ri hx hb hr hlk rfl hP hD hS dX5_figureOf_103
      · have hu := hu.trans (if_pos c_62)
        refine lv_aload_n hx hb dX5_figureOf_65 rfl (lv_at hl 2 rfl) ?_
        refine lv_aload_n hx hb dX5_figureOf_66 rfl (lv_at hl 2 rfl) ?_
        refine va_get (D := (dC, dI)) (ci := 5) (v := .int o_faultAt) (C := RX5) (T := TX5) (N := 29) hx hb hts hinX5 hown hK hP 0 rfl rfl 16 (by decide) w1 (fun _ h9 => h9) rfl dX5_figureOf_67 ?_
        refine lv_bipush (v := (-9)) hx hb dX5_figureOf_70 (by decide) ?_
        obtain ⟨z5, ez5, hu⟩ := lxb_o hu
        refine hg_cut (D := (dC, dI)) (A0 := A) (H0 := s.heap) (ws := [(o_h, .inr (5, [.int o_players, .int o_bars, .ref o_price, .ref o_breath, .ref o_kind, .ref o_looks, .ref o_noise, .ref o_repeat, .ref o_now, .ref o_readPlayer, .ref o_readBar, .int o_readPlayers, .int o_readBars, .ref o_text, .int o_length, .int o_at, .int o_faultAt, .int o_acts, .int o_next, .ref o_row, .int o_heard, .ref o_heardOf, .ref o_heardBars, .ref o_heardPlays, .int o_hushWho, .int o_hushSum, .long o_seed, .ref o_isKept, .ref o_kept])), (o_text, .inl (cI, 56, .inl o_text_v))]) (g := F0 m 86 ls [.int z5, .ref o_h]) ?_ (fun hJ => ?_)
        · intro H locs hP hD hS
          refine va_put (D := (dC, dI)) (ci := 5) (v := .int z5) (ty := .int) (C := RX5) (T := TX5) (N := 29) hx hb hts hinX5 tyX5 tyX5_ok nmX5 hown hK hP hD hS 0 rfl rfl 16 (by decide) w1 (fun _ h9 => h9) rfl (by decide +kernel) rfl rfl (Nat.le_of_ble_eq_true rfl) dX5_figureOf_86 (fun H locs hP hD hS => ?_)
          have hP : va_P (dC, dI) vwCl [(o_h, .inr (5, [.int o_players, .int o_bars, .ref o_price, .ref o_breath, .ref o_kind, .ref o_looks, .ref o_noise, .ref o_repeat, .ref o_now, .ref o_readPlayer, .ref o_readBar, .int o_readPlayers, .int o_readBars, .ref o_text, .int o_length, .int o_at, .int z5, .int o_acts, .int o_next, .ref o_row, .int o_heard, .ref o_heardOf, .ref o_heardBars, .ref o_heardPlays, .int o_hushWho, .int o_hushSum, .long o_seed, .ref o_isKept, .ref o_kept])), (o_text, .inl (cI, 56, .inl o_text_v))] H := hP
          have hD : va_D A [(o_h, .inr (5, [.int o_players, .int o_bars, .ref o_price, .ref o_breath, .ref o_kind, .ref o_looks, .ref o_noise, .ref o_repeat, .ref o_now, .ref o_readPlayer, .ref o_readBar, .int o_readPlayers, .int o_readBars, .ref o_text, .int o_length, .int o_at, .int z5, .int o_acts, .int o_next, .ref o_row, .int o_heard, .ref o_heardOf, .ref o_heardBars, .ref o_heardPlays, .int o_hushWho, .int o_hushSum, .long o_seed, .ref o_isKept, .ref o_kept])), (o_text, .inl (cI, 56, .inl o_text_v))] := hD
          refine lv_iconst (v := 0) hx hb dX5_figureOf_89 (by decide) ?_
          subst hu
          exact hg_ri hx hb hr hlk rfl hP hD hS dX5_figureOf_90
        · refine lv_icmp_ne (tgt := 82) hx hb dX5_figureOf_72 (by decide) (fun c_72 => ?_) (fun c_72 => ?_)
          · have ez5 := ez5.trans (if_neg c_72)
            refine lv_aload_n hx hb dX5_figureOf_82 rfl (lv_at hl 2 rfl) ?_
            refine va_get (D := (dC, dI)) (ci := 5) (v := .int o_faultAt) (C := RX5) (T := TX5) (N := 29) hx hb hts hinX5 hown hK hP 0 rfl rfl 16 (by decide) w1 (fun _ h9 => h9) rfl dX5_figureOf_83 ?_
            subst ez5
            exact hJ _ _ hP hD hS
          · have ez5 := ez5.trans (if_pos c_72)
            refine lv_aload_n hx hb dX5_figureOf_75 rfl (lv_at hl 2 rfl) ?_
            refine va_get (D := (dC, dI)) (ci := 5) (v := .int o_at) (C := RX5) (T := TX5) (N := 29) hx hb hts hinX5 hown hK hP 0 rfl rfl 15 (by decide) w2 (fun _ h9 => h9) rfl dX5_figureOf_76 ?_
            refine lv_goto (tgt := 86) hx hb dX5_figureOf_79 (by decide) ?_
            subst ez5
            exact hJ _ _ hP hD hS

set_option maxHeartbeats 4000000 in
set_option maxRecDepth 100000 in
theorem c_X5_readPart (l : Launch) (dC : Nat → ClassId) (dI : Nat → Nat → Nat) (cI cZ cM : ClassId) (sz : Nat) (o_h : Nat) (x0 : Int32) (o_players : Int32) (o_bars : Int32) (o_price : Nat) (o_breath : Nat) (o_kind : Nat) (o_looks : Nat) (o_noise : Nat) (o_repeat : Nat) (o_now : Nat) (o_readPlayer : Nat) (o_readBar : Nat) (o_readPlayers : Int32) (o_readBars : Int32) (o_text : Nat) (o_length : Int32) (o_at : Int32) (o_faultAt : Int32) (o_acts : Int32) (o_next : Int32) (o_row : Nat) (o_heard : Int32) (o_heardOf : Nat) (o_heardBars : Nat) (o_heardPlays : Nat) (o_hushWho : Int32) (o_hushSum : Int32) (o_seed : Int64) (o_isKept : Nat) (o_kept : Nat) (o_text_v : Nat → Int32) (o_readBar_v : Nat → Int32) (o_readPlayer_v : Nat → Int32) (np : Nat) (enp : o_players = nI np) (hnp : np ≤ 6) (nb : Nat) (enb : o_bars = nI nb) (hnb : nb ≤ 8) (nl : Nat) (enl : o_length = nI nl) (hnl : nl ≤ 56) (ta : Nat) (eta : o_at = nI ta) (hta : ta < nl) (ra : Nat) (era : o_readPlayers = nI ra) (hra : ra ≤ 6) (rb : Nat) (erb : o_readBars = nI rb) (hrb : rb ≤ 8) (u : Int32 × Int32 × Int32 × Int32 × (Nat → Int32) × (Nat → Int32)) (hu : u = f_X5_readPart x0 o_readPlayers o_readBars o_length o_at o_faultAt o_text_v o_readBar_v o_readPlayer_v) : Met l yX5_readPart wsX5_readPart { frames := 2, cells := 0, slots := 0, locals := 49 } (hgPc [.ref o_h, .int x0] (dC, dI) cI cZ cM [(o_h, .inr (5, [.int o_players, .int o_bars, .ref o_price, .ref o_breath, .ref o_kind, .ref o_looks, .ref o_noise, .ref o_repeat, .ref o_now, .ref o_readPlayer, .ref o_readBar, .int o_readPlayers, .int o_readBars, .ref o_text, .int o_length, .int o_at, .int o_faultAt, .int o_acts, .int o_next, .ref o_row, .int o_heard, .ref o_heardOf, .ref o_heardBars, .ref o_heardPlays, .int o_hushWho, .int o_hushSum, .long o_seed, .ref o_isKept, .ref o_kept])), (o_text, .inl (cI, 56, .inl o_text_v)), (o_readBar, .inl (cI, 16, .inl o_readBar_v)), (o_readPlayer, .inl (cI, 24, .inl o_readPlayer_v))] sz) (hgQvE (dC, dI) [(o_h, .inr (5, [.int o_players, .int o_bars, .ref o_price, .ref o_breath, .ref o_kind, .ref o_looks, .ref o_noise, .ref o_repeat, .ref o_now, .ref o_readPlayer, .ref o_readBar, .int u.1, .int u.2.1, .ref o_text, .int o_length, .int u.2.2.1, .int u.2.2.2.1, .int o_acts, .int o_next, .ref o_row, .int o_heard, .ref o_heardOf, .ref o_heardBars, .ref o_heardPlays, .int o_hushWho, .int o_hushSum, .long o_seed, .ref o_isKept, .ref o_kept])), (o_text, .inl (cI, 56, .inl o_text_v)), (o_readBar, .inl (cI, 16, .inl u.2.2.2.2.1)), (o_readPlayer, .inl (cI, 24, .inl u.2.2.2.2.2))] (∃ t a b, u.2.2.1 = nI t ∧ t ≤ nl ∧ u.1 = nI a ∧ a ≤ 6 ∧ u.2.1 = nI b ∧ b ≤ 8 ∧ (u.2.2.2.1 = (-9) → ta < t)) (va_A [(o_h, .inr (5, [.int o_players, .int o_bars, .ref o_price, .ref o_breath, .ref o_kind, .ref o_looks, .ref o_noise, .ref o_repeat, .ref o_now, .ref o_readPlayer, .ref o_readBar, .int o_readPlayers, .int o_readBars, .ref o_text, .int o_length, .int o_at, .int o_faultAt, .int o_acts, .int o_next, .ref o_row, .int o_heard, .ref o_heardOf, .ref o_heardBars, .ref o_heardPlays, .int o_hushWho, .int o_hushSum, .long o_seed, .ref o_isKept, .ref o_kept])), (o_text, .inl (cI, 56, .inl o_text_v)), (o_readBar, .inl (cI, 16, .inl o_readBar_v)), (o_readPlayer, .inl (cI, 24, .inl o_readPlayer_v))] sz)) 0 0 (va_A [(o_h, .inr (5, [.int o_players, .int o_bars, .ref o_price, .ref o_breath, .ref o_kind, .ref o_looks, .ref o_noise, .ref o_repeat, .ref o_now, .ref o_readPlayer, .ref o_readBar, .int o_readPlayers, .int o_readBars, .ref o_text, .int o_length, .int o_at, .int o_faultAt, .int o_acts, .int o_next, .ref o_row, .int o_heard, .ref o_heardOf, .ref o_heardBars, .ref o_heardPlays, .int o_hushWho, .int o_hushSum, .long o_seed, .ref o_isKept, .ref o_kept])), (o_text, .inl (cI, 56, .inl o_text_v)), (o_readBar, .inl (cI, 16, .inl o_readBar_v)), (o_readPlayer, .inl (cI, 24, .inl o_readPlayer_v))] sz) := by
  refine hg_ofW (cc := cX5_readPart) (maxL := 3) (ret := none) (own := RX5) (fun A => hgQvE (dC, dI) [(o_h, .inr (5, [.int o_players, .int o_bars, .ref o_price, .ref o_breath, .ref o_kind, .ref o_looks, .ref o_noise, .ref o_repeat, .ref o_now, .ref o_readPlayer, .ref o_readBar, .int u.1, .int u.2.1, .ref o_text, .int o_length, .int u.2.2.1, .int u.2.2.2.1, .int o_acts, .int o_next, .ref o_row, .int o_heard, .ref o_heardOf, .ref o_heardBars, .ref o_heardPlays, .int o_hushWho, .int o_hushSum, .long o_seed, .ref o_isKept, .ref o_kept])), (o_text, .inl (cI, 56, .inl o_text_v)), (o_readBar, .inl (cI, 16, .inl u.2.2.2.2.1)), (o_readPlayer, .inl (cI, 24, .inl u.2.2.2.2.2))] (∃ t a b, u.2.2.1 = nI t ∧ t ≤ nl ∧ u.1 = nI a ∧ a ≤ 6 ∧ u.2.1 = nI b ∧ b ≤ 8 ∧ (u.2.2.2.1 = (-9) → ta < t)) A) rfl (by decide) rfl (Nat.le_of_ble_eq_true rfl) ?_
  intro p e s m below meth c ls A hsz hx hb hr hml hown hts hlk hnm hK hN hA hP hD hS hl
  subst hsz
  have w2 := hts (.fieldLink RX5 72 "HatGoesRoundModel" "at" "I") (List.mem_of_getElem? (i := 2) rfl)
  have hinX5 : ∀ w ∈ u_ws RX5 TX5 29, w ∈ wsX5_readPart := fun _ h => List.mem_cons_of_mem _ (List.mem_append_right _ h)
  have w6 := hts (.fieldLink RX5 69 "HatGoesRoundModel" "faultAt" "I") (List.mem_of_getElem? (i := 6) rfl)
  have w4 := hts (.fieldLink RX5 78 "HatGoesRoundModel" "readBars" "I") (List.mem_of_getElem? (i := 4) rfl)
  have w5 := hts (.fieldLink RX5 34 "HatGoesRoundModel" "readBar" "[I") (List.mem_of_getElem? (i := 5) rfl)
  have w1 := hts (.fieldLink RX5 75 "HatGoesRoundModel" "readPlayers" "I") (List.mem_of_getElem? (i := 1) rfl)
  have w3 := hts (.fieldLink RX5 31 "HatGoesRoundModel" "readPlayer" "[I") (List.mem_of_getElem? (i := 3) rfl)
  have hl : lv_has ls 3 [(0, .ref o_h), (1, .int x0)] := hl
  unfold f_X5_readPart at hu
  refine lv_iload_n hx hb dX5_readPart_0 rfl (lv_at hl 1 rfl) ?_
  refine lv_bipush (v := 80) hx hb dX5_readPart_1 (by decide) ?_
  refine lv_icmp_ne (tgt := 101) hx hb dX5_readPart_3 (by decide) (fun c_3 => ?_) (fun c_3 => ?_)
  · have hu := hu.trans (if_neg c_3)
    refine lv_iload_n hx hb dX5_readPart_101 rfl (lv_at hl 1 rfl) ?_
    refine lv_bipush (v := 66) hx hb dX5_readPart_102 (by decide) ?_
    refine lv_icmp_ne (tgt := 177) hx hb dX5_readPart_104 (by decide) (fun c_104 => ?_) (fun c_104 => ?_)
    · have hu := hu.trans (if_neg c_104)
      refine lv_aload_n hx hb dX5_readPart_177 rfl (lv_at hl 0 rfl) ?_
      refine lv_aload_n hx hb dX5_readPart_178 rfl (lv_at hl 0 rfl) ?_
      refine va_get (D := (dC, dI)) (ci := 5) (v := .int o_at) (C := RX5) (T := TX5) (N := 29) hx hb hts hinX5 hown hK hP 0 rfl rfl 15 (by decide) w2 (fun _ h9 => h9) rfl dX5_readPart_179 ?_
      refine va_put (D := (dC, dI)) (ci := 5) (v := .int o_at) (ty := .int) (C := RX5) (T := TX5) (N := 29) hx hb hts hinX5 tyX5 tyX5_ok nmX5 hown hK hP hD hS 0 rfl rfl 16 (by decide) w6 (fun _ h9 => h9) rfl (by decide +kernel) rfl rfl (Nat.le_of_ble_eq_true rfl) dX5_readPart_182 (fun H locs hP hD hS => ?_)
      have hP : va_P (dC, dI) vwCl [(o_h, .inr (5, [.int o_players, .int o_bars, .ref o_price, .ref o_breath, .ref o_kind, .ref o_looks, .ref o_noise, .ref o_repeat, .ref o_now, .ref o_readPlayer, .ref o_readBar, .int o_readPlayers, .int o_readBars, .ref o_text, .int o_length, .int o_at, .int o_at, .int o_acts, .int o_next, .ref o_row, .int o_heard, .ref o_heardOf, .ref o_heardBars, .ref o_heardPlays, .int o_hushWho, .int o_hushSum, .long o_seed, .ref o_isKept, .ref o_kept])), (o_text, .inl (cI, 56, .inl o_text_v)), (o_readBar, .inl (cI, 16, .inl o_readBar_v)), (o_readPlayer, .inl (cI, 24, .inl o_readPlayer_v))] H := hP
      have hD : va_D A [(o_h, .inr (5, [.int o_players, .int o_bars, .ref o_price, .ref o_breath, .ref o_kind, .ref o_looks, .ref o_noise, .ref o_repeat, .ref o_now, .ref o_readPlayer, .ref o_readBar, .int o_readPlayers, .int o_readBars, .ref o_text, .int o_length, .int o_at, .int o_at, .int o_acts, .int o_next, .ref o_row, .int o_heard, .ref o_heardOf, .ref o_heardBars, .ref o_heardPlays, .int o_hushWho, .int o_hushSum, .long o_seed, .ref o_isKept, .ref o_kept])), (o_text, .inl (cI, 56, .inl o_text_v)), (o_readBar, .inl (cI, 16, .inl o_readBar_v)), (o_readPlayer, .inl (cI, 24, .inl o_readPlayer_v))] := hD
      subst hu
      exact hg_rvE hx hb hr hlk ⟨ta, ra, rb, eta, by omega, era, by omega, erb, by omega, (fun hf => absurd hf (mNe9 eta (by omega)))⟩ hP hD hS dX5_readPart_185
    · have hu := hu.trans (if_pos c_104)
      refine lv_aload_n hx hb dX5_readPart_107 rfl (lv_at hl 0 rfl) ?_
      refine va_get (D := (dC, dI)) (ci := 5) (v := .int o_readBars) (C := RX5) (T := TX5) (N := 29) hx hb hts hinX5 hown hK hP 0 rfl rfl 12 (by decide) w4 (fun _ h9 => h9) rfl dX5_readPart_108 ?_
      refine lv_bipush (v := 8) hx hb dX5_readPart_111 (by decide) ?_
      refine lv_icmp_ge (tgt := 177) hx hb dX5_readPart_113 (by decide) (fun c_113 => ?_) (fun c_113 => ?_)
      · have hu := hu.trans (if_pos c_113)
        refine lv_aload_n hx hb dX5_readPart_177 rfl (lv_at hl 0 rfl) ?_
        refine lv_aload_n hx hb dX5_readPart_178 rfl (lv_at hl 0 rfl) ?_
        refine va_get (D := (dC, dI)) (ci := 5) (v := .int o_at) (C := RX5) (T := TX5) (N := 29) hx hb hts hinX5 hown hK hP 0 rfl rfl 15 (by decide) w2 (fun _ h9 => h9) rfl dX5_readPart_179 ?_
        refine va_put (D := (dC, dI)) (ci := 5) (v := .int o_at) (ty := .int) (C := RX5) (T := TX5) (N := 29) hx hb hts hinX5 tyX5 tyX5_ok nmX5 hown hK hP hD hS 0 rfl rfl 16 (by decide) w6 (fun _ h9 => h9) rfl (by decide +kernel) rfl rfl (Nat.le_of_ble_eq_true rfl) dX5_readPart_182 (fun H locs hP hD hS => ?_)
        have hP : va_P (dC, dI) vwCl [(o_h, .inr (5, [.int o_players, .int o_bars, .ref o_price, .ref o_breath, .ref o_kind, .ref o_looks, .ref o_noise, .ref o_repeat, .ref o_now, .ref o_readPlayer, .ref o_readBar, .int o_readPlayers, .int o_readBars, .ref o_text, .int o_length, .int o_at, .int o_at, .int o_acts, .int o_next, .ref o_row, .int o_heard, .ref o_heardOf, .ref o_heardBars, .ref o_heardPlays, .int o_hushWho, .int o_hushSum, .long o_seed, .ref o_isKept, .ref o_kept])), (o_text, .inl (cI, 56, .inl o_text_v)), (o_readBar, .inl (cI, 16, .inl o_readBar_v)), (o_readPlayer, .inl (cI, 24, .inl o_readPlayer_v))] H := hP
        have hD : va_D A [(o_h, .inr (5, [.int o_players, .int o_bars, .ref o_price, .ref o_breath, .ref o_kind, .ref o_looks, .ref o_noise, .ref o_repeat, .ref o_now, .ref o_readPlayer, .ref o_readBar, .int o_readPlayers, .int o_readBars, .ref o_text, .int o_length, .int o_at, .int o_at, .int o_acts, .int o_next, .ref o_row, .int o_heard, .ref o_heardOf, .ref o_heardBars, .ref o_heardPlays, .int o_hushWho, .int o_hushSum, .long o_seed, .ref o_isKept, .ref o_kept])), (o_text, .inl (cI, 56, .inl o_text_v)), (o_readBar, .inl (cI, 16, .inl o_readBar_v)), (o_readPlayer, .inl (cI, 24, .inl o_readPlayer_v))] := hD
        subst hu
        exact hg_rvE hx hb hr hlk ⟨ta, ra, rb, eta, by omega, era, by omega, erb, by omega, (fun hf => absurd hf (mNe9 eta (by omega)))⟩ hP hD hS dX5_readPart_185
      · have hu := hu.trans (if_neg c_113)
        have hrb2 : rb < 8 := hg_nltN erb (show (8 : Int32) = nI 8 from rfl) (by omega) (by decide) c_113
        refine lv_aload_n hx hb dX5_readPart_116 rfl (lv_at hl 0 rfl) ?_
        refine lv_dup hx hb dX5_readPart_117 rfl ?_
        refine va_get (D := (dC, dI)) (ci := 5) (v := .int o_at) (C := RX5) (T := TX5) (N := 29) hx hb hts hinX5 hown hK hP 0 rfl rfl 15 (by decide) w2 (fun _ h9 => h9) rfl dX5_readPart_118 ?_
        refine lv_iconst (v := 1) hx hb dX5_readPart_121 (by decide) ?_
        refine lv_iadd hx hb dX5_readPart_122 ?_
        refine va_put (D := (dC, dI)) (ci := 5) (v := .int (o_at + 1)) (ty := .int) (C := RX5) (T := TX5) (N := 29) hx hb hts hinX5 tyX5 tyX5_ok nmX5 hown hK hP hD hS 0 rfl rfl 15 (by decide) w2 (fun _ h9 => h9) rfl (by decide +kernel) rfl rfl (Nat.le_of_ble_eq_true rfl) dX5_readPart_123 (fun H locs hP hD hS => ?_)
        have hP : va_P (dC, dI) vwCl [(o_h, .inr (5, [.int o_players, .int o_bars, .ref o_price, .ref o_breath, .ref o_kind, .ref o_looks, .ref o_noise, .ref o_repeat, .ref o_now, .ref o_readPlayer, .ref o_readBar, .int o_readPlayers, .int o_readBars, .ref o_text, .int o_length, .int (o_at + 1), .int o_faultAt, .int o_acts, .int o_next, .ref o_row, .int o_heard, .ref o_heardOf, .ref o_heardBars, .ref o_heardPlays, .int o_hushWho, .int o_hushSum, .long o_seed, .ref o_isKept, .ref o_kept])), (o_text, .inl (cI, 56, .inl o_text_v)), (o_readBar, .inl (cI, 16, .inl o_readBar_v)), (o_readPlayer, .inl (cI, 24, .inl o_readPlayer_v))] H := hP
        have hD : va_D A [(o_h, .inr (5, [.int o_players, .int o_bars, .ref o_price, .ref o_breath, .ref o_kind, .ref o_looks, .ref o_noise, .ref o_repeat, .ref o_now, .ref o_readPlayer, .ref o_readBar, .int o_readPlayers, .int o_readBars, .ref o_text, .int o_length, .int (o_at + 1), .int o_faultAt, .int o_acts, .int o_next, .ref o_row, .int o_heard, .ref o_heardOf, .ref o_heardBars, .ref o_heardPlays, .int o_hushWho, .int o_hushSum, .long o_seed, .ref o_isKept, .ref o_kept])), (o_text, .inl (cI, 56, .inl o_text_v)), (o_readBar, .inl (cI, 16, .inl o_readBar_v)), (o_readPlayer, .inl (cI, 24, .inl o_readPlayer_v))] := hD
        refine lv_aload_n hx hb dX5_readPart_126 rfl (lv_at hl 0 rfl) ?_
        refine va_get (D := (dC, dI)) (ci := 5) (v := .ref o_readBar) (C := RX5) (T := TX5) (N := 29) hx hb hts hinX5 hown hK hP 0 rfl rfl 10 (by decide) w5 (fun _ h9 => h9) rfl dX5_readPart_127 ?_
        refine lv_iconst (v := 2) hx hb dX5_readPart_130 (by decide) ?_
        refine lv_aload_n hx hb dX5_readPart_131 rfl (lv_at hl 0 rfl) ?_
        refine va_get (D := (dC, dI)) (ci := 5) (v := .int o_readBars) (C := RX5) (T := TX5) (N := 29) hx hb hts hinX5 hown hK hP 0 rfl rfl 12 (by decide) w4 (fun _ h9 => h9) rfl dX5_readPart_132 ?_
        refine lv_imul hx hb dX5_readPart_135 ?_
        refine lv_aload_n hx hb dX5_readPart_136 rfl (lv_at hl 0 rfl) ?_
        refine lv_iconst (v := 0) hx hb dX5_readPart_137 (by decide) ?_
        refine lv_bipush (v := 9) hx hb dX5_readPart_138 (by decide) ?_
        obtain ⟨r1, er1, hu⟩ := lxb_o hu
        refine hg_ci (va_runV (As := [.int 0, .int 9]) (rest := [.int (2 * o_readBars), .ref o_readBar]) ⟨hx, hb, hml, hown, hts⟩ (c_X5_figureOf l dC dI cI cZ cM _ o_h 0 9 o_players o_bars o_price o_breath o_kind o_looks o_noise o_repeat o_now o_readPlayer o_readBar o_readPlayers o_readBars o_text o_length (o_at + 1) o_faultAt o_acts o_next o_row o_heard o_heardOf o_heardBars o_heardPlays o_hushWho o_hushSum o_seed o_isKept o_kept o_text_v np enp (by omega) nb enb (by omega) (ta + 1) (nx_add eta (show (1 : Int32) = nI 1 from rfl)) (by omega) nl enl (by omega) r1 er1) (cwV 2 hts gX5_readPart_X5_figureOf rfl rfl rfl (by decide +kernel) ⟨Nat.le_of_ble_eq_true rfl, Nat.le_of_ble_eq_true rfl⟩) (hgPreV (C := RX5) (T := TX5) (N := 29) (ci := 5) (q0 := 0) hP hD hK hN [0, 1] rfl rfl rfl rfl) rfl rfl hl.1 rfl (lv_room (Nat.le_of_ble_eq_true rfl)) dX5_readPart_140 ⟨Nat.zero_le _, Nat.zero_le _⟩) hP hD hS hA (wr := [(o_readBar, .inl (cI, 16, .inl o_readBar_v)), (o_readPlayer, .inl (cI, 24, .inl o_readPlayer_v))]) (wf := [(o_h, .inr (5, [.int o_players, .int o_bars, .ref o_price, .ref o_breath, .ref o_kind, .ref o_looks, .ref o_noise, .ref o_repeat, .ref o_now, .ref o_readPlayer, .ref o_readBar, .int o_readPlayers, .int o_readBars, .ref o_text, .int o_length, .int r1.2.1, .int r1.2.2, .int o_acts, .int o_next, .ref o_row, .int o_heard, .ref o_heardOf, .ref o_heardBars, .ref o_heardPlays, .int o_hushWho, .int o_hushSum, .long o_seed, .ref o_isKept, .ref o_kept])), (o_text, .inl (cI, 56, .inl o_text_v)), (o_readBar, .inl (cI, 16, .inl o_readBar_v)), (o_readPlayer, .inl (cI, 24, .inl o_readPlayer_v))]) [0, 1] [2, 3] [2, 3, 0, 1] rfl rfl rfl (by decide) rfl rfl (fun H locs hP hD hS => ?_)
        obtain ⟨t2, et2, ht2a, ht2b⟩ := mFig enl (nx_add eta (show (1 : Int32) = nI 1 from rfl)) (by omega) er1
        refine va_iast hx hb hK hP hD hS 2 0 rfl rfl (n := 16) (f := o_readBar_v) (hg_in (n := (2 * rb)) (N := 16) (nx_mul (show (2 : Int32) = nI 2 from rfl) erb) (by omega) (by decide)) dX5_readPart_143 (fun H locs hP hD hS => ?_)
        have hP : va_P (dC, dI) vwCl [(o_h, .inr (5, [.int o_players, .int o_bars, .ref o_price, .ref o_breath, .ref o_kind, .ref o_looks, .ref o_noise, .ref o_repeat, .ref o_now, .ref o_readPlayer, .ref o_readBar, .int o_readPlayers, .int o_readBars, .ref o_text, .int o_length, .int r1.2.1, .int r1.2.2, .int o_acts, .int o_next, .ref o_row, .int o_heard, .ref o_heardOf, .ref o_heardBars, .ref o_heardPlays, .int o_hushWho, .int o_hushSum, .long o_seed, .ref o_isKept, .ref o_kept])), (o_text, .inl (cI, 56, .inl o_text_v)), (o_readBar, .inl (cI, 16, .inl (upd o_readBar_v (Int32.toNatClampNeg (2 * o_readBars)) r1.1))), (o_readPlayer, .inl (cI, 24, .inl o_readPlayer_v))] H := hP
        have hD : va_D A [(o_h, .inr (5, [.int o_players, .int o_bars, .ref o_price, .ref o_breath, .ref o_kind, .ref o_looks, .ref o_noise, .ref o_repeat, .ref o_now, .ref o_readPlayer, .ref o_readBar, .int o_readPlayers, .int o_readBars, .ref o_text, .int o_length, .int r1.2.1, .int r1.2.2, .int o_acts, .int o_next, .ref o_row, .int o_heard, .ref o_heardOf, .ref o_heardBars, .ref o_heardPlays, .int o_hushWho, .int o_hushSum, .long o_seed, .ref o_isKept, .ref o_kept])), (o_text, .inl (cI, 56, .inl o_text_v)), (o_readBar, .inl (cI, 16, .inl (upd o_readBar_v (Int32.toNatClampNeg (2 * o_readBars)) r1.1))), (o_readPlayer, .inl (cI, 24, .inl o_readPlayer_v))] := hD
        refine lv_aload_n hx hb dX5_readPart_144 rfl (lv_at hl 0 rfl) ?_
        refine va_get (D := (dC, dI)) (ci := 5) (v := .ref o_readBar) (C := RX5) (T := TX5) (N := 29) hx hb hts hinX5 hown hK hP 0 rfl rfl 10 (by decide) w5 (fun _ h9 => h9) rfl dX5_readPart_145 ?_
        refine lv_iconst (v := 2) hx hb dX5_readPart_148 (by decide) ?_
        refine lv_aload_n hx hb dX5_readPart_149 rfl (lv_at hl 0 rfl) ?_
        refine va_get (D := (dC, dI)) (ci := 5) (v := .int o_readBars) (C := RX5) (T := TX5) (N := 29) hx hb hts hinX5 hown hK hP 0 rfl rfl 12 (by decide) w4 (fun _ h9 => h9) rfl dX5_readPart_150 ?_
        refine lv_imul hx hb dX5_readPart_153 ?_
        refine lv_iconst (v := 1) hx hb dX5_readPart_154 (by decide) ?_
        refine lv_iadd hx hb dX5_readPart_155 ?_
        refine lv_aload_n hx hb dX5_readPart_156 rfl (lv_at hl 0 rfl) ?_
        refine lv_iconst (v := 0) hx hb dX5_readPart_157 (by decide) ?_
        refine lv_bipush (v := 7) hx hb dX5_readPart_158 (by decide) ?_
        obtain ⟨r3, er3, hu⟩ := lxb_o hu
        refine hg_ci (va_runV (As := [.int 0, .int 7]) (rest := [.int ((2 * o_readBars) + 1), .ref o_readBar]) ⟨hx, hb, hml, hown, hts⟩ (c_X5_figureOf l dC dI cI cZ cM _ o_h 0 7 o_players o_bars o_price o_breath o_kind o_looks o_noise o_repeat o_now o_readPlayer o_readBar o_readPlayers o_readBars o_text o_length r1.2.1 r1.2.2 o_acts o_next o_row o_heard o_heardOf o_heardBars o_heardPlays o_hushWho o_hushSum o_seed o_isKept o_kept o_text_v np enp (by omega) nb enb (by omega) t2 et2 (by omega) nl enl (by omega) r3 er3) (cwV 2 hts gX5_readPart_X5_figureOf rfl rfl rfl (by decide +kernel) ⟨Nat.le_of_ble_eq_true rfl, Nat.le_of_ble_eq_true rfl⟩) (hgPreV (C := RX5) (T := TX5) (N := 29) (ci := 5) (q0 := 0) hP hD hK hN [0, 1] rfl rfl rfl rfl) rfl rfl hl.1 rfl (lv_room (Nat.le_of_ble_eq_true rfl)) dX5_readPart_160 ⟨Nat.zero_le _, Nat.zero_le _⟩) hP hD hS hA (wr := [(o_readBar, .inl (cI, 16, .inl (upd o_readBar_v (Int32.toNatClampNeg (2 * o_readBars)) r1.1))), (o_readPlayer, .inl (cI, 24, .inl o_readPlayer_v))]) (wf := [(o_h, .inr (5, [.int o_players, .int o_bars, .ref o_price, .ref o_breath, .ref o_kind, .ref o_looks, .ref o_noise, .ref o_repeat, .ref o_now, .ref o_readPlayer, .ref o_readBar, .int o_readPlayers, .int o_readBars, .ref o_text, .int o_length, .int r3.2.1, .int r3.2.2, .int o_acts, .int o_next, .ref o_row, .int o_heard, .ref o_heardOf, .ref o_heardBars, .ref o_heardPlays, .int o_hushWho, .int o_hushSum, .long o_seed, .ref o_isKept, .ref o_kept])), (o_text, .inl (cI, 56, .inl o_text_v)), (o_readBar, .inl (cI, 16, .inl (upd o_readBar_v (Int32.toNatClampNeg (2 * o_readBars)) r1.1))), (o_readPlayer, .inl (cI, 24, .inl o_readPlayer_v))]) [0, 1] [2, 3] [2, 3, 0, 1] rfl rfl rfl (by decide) rfl rfl (fun H locs hP hD hS => ?_)
        obtain ⟨t4, et4, ht4a, ht4b⟩ := mFig enl et2 (by omega) er3
        refine va_iast hx hb hK hP hD hS 2 0 rfl rfl (n := 16) (f := (upd o_readBar_v (Int32.toNatClampNeg (2 * o_readBars)) r1.1)) (hg_in (n := ((2 * rb) + 1)) (N := 16) (nx_add (nx_mul (show (2 : Int32) = nI 2 from rfl) erb) (show (1 : Int32) = nI 1 from rfl)) (by omega) (by decide)) dX5_readPart_163 (fun H locs hP hD hS => ?_)
        have hP : va_P (dC, dI) vwCl [(o_h, .inr (5, [.int o_players, .int o_bars, .ref o_price, .ref o_breath, .ref o_kind, .ref o_looks, .ref o_noise, .ref o_repeat, .ref o_now, .ref o_readPlayer, .ref o_readBar, .int o_readPlayers, .int o_readBars, .ref o_text, .int o_length, .int r3.2.1, .int r3.2.2, .int o_acts, .int o_next, .ref o_row, .int o_heard, .ref o_heardOf, .ref o_heardBars, .ref o_heardPlays, .int o_hushWho, .int o_hushSum, .long o_seed, .ref o_isKept, .ref o_kept])), (o_text, .inl (cI, 56, .inl o_text_v)), (o_readBar, .inl (cI, 16, .inl (upd (upd o_readBar_v (Int32.toNatClampNeg (2 * o_readBars)) r1.1) (Int32.toNatClampNeg ((2 * o_readBars) + 1)) r3.1))), (o_readPlayer, .inl (cI, 24, .inl o_readPlayer_v))] H := hP
        have hD : va_D A [(o_h, .inr (5, [.int o_players, .int o_bars, .ref o_price, .ref o_breath, .ref o_kind, .ref o_looks, .ref o_noise, .ref o_repeat, .ref o_now, .ref o_readPlayer, .ref o_readBar, .int o_readPlayers, .int o_readBars, .ref o_text, .int o_length, .int r3.2.1, .int r3.2.2, .int o_acts, .int o_next, .ref o_row, .int o_heard, .ref o_heardOf, .ref o_heardBars, .ref o_heardPlays, .int o_hushWho, .int o_hushSum, .long o_seed, .ref o_isKept, .ref o_kept])), (o_text, .inl (cI, 56, .inl o_text_v)), (o_readBar, .inl (cI, 16, .inl (upd (upd o_readBar_v (Int32.toNatClampNeg (2 * o_readBars)) r1.1) (Int32.toNatClampNeg ((2 * o_readBars) + 1)) r3.1))), (o_readPlayer, .inl (cI, 24, .inl o_readPlayer_v))] := hD
        refine lv_aload_n hx hb dX5_readPart_164 rfl (lv_at hl 0 rfl) ?_
        refine lv_dup hx hb dX5_readPart_165 rfl ?_
        refine va_get (D := (dC, dI)) (ci := 5) (v := .int o_readBars) (C := RX5) (T := TX5) (N := 29) hx hb hts hinX5 hown hK hP 0 rfl rfl 12 (by decide) w4 (fun _ h9 => h9) rfl dX5_readPart_166 ?_
        refine lv_iconst (v := 1) hx hb dX5_readPart_169 (by decide) ?_
        refine lv_iadd hx hb dX5_readPart_170 ?_
        refine va_put (D := (dC, dI)) (ci := 5) (v := .int (o_readBars + 1)) (ty := .int) (C := RX5) (T := TX5) (N := 29) hx hb hts hinX5 tyX5 tyX5_ok nmX5 hown hK hP hD hS 0 rfl rfl 12 (by decide) w4 (fun _ h9 => h9) rfl (by decide +kernel) rfl rfl (Nat.le_of_ble_eq_true rfl) dX5_readPart_171 (fun H locs hP hD hS => ?_)
        have hP : va_P (dC, dI) vwCl [(o_h, .inr (5, [.int o_players, .int o_bars, .ref o_price, .ref o_breath, .ref o_kind, .ref o_looks, .ref o_noise, .ref o_repeat, .ref o_now, .ref o_readPlayer, .ref o_readBar, .int o_readPlayers, .int (o_readBars + 1), .ref o_text, .int o_length, .int r3.2.1, .int r3.2.2, .int o_acts, .int o_next, .ref o_row, .int o_heard, .ref o_heardOf, .ref o_heardBars, .ref o_heardPlays, .int o_hushWho, .int o_hushSum, .long o_seed, .ref o_isKept, .ref o_kept])), (o_text, .inl (cI, 56, .inl o_text_v)), (o_readBar, .inl (cI, 16, .inl (upd (upd o_readBar_v (Int32.toNatClampNeg (2 * o_readBars)) r1.1) (Int32.toNatClampNeg ((2 * o_readBars) + 1)) r3.1))), (o_readPlayer, .inl (cI, 24, .inl o_readPlayer_v))] H := hP
        have hD : va_D A [(o_h, .inr (5, [.int o_players, .int o_bars, .ref o_price, .ref o_breath, .ref o_kind, .ref o_looks, .ref o_noise, .ref o_repeat, .ref o_now, .ref o_readPlayer, .ref o_readBar, .int o_readPlayers, .int (o_readBars + 1), .ref o_text, .int o_length, .int r3.2.1, .int r3.2.2, .int o_acts, .int o_next, .ref o_row, .int o_heard, .ref o_heardOf, .ref o_heardBars, .ref o_heardPlays, .int o_hushWho, .int o_hushSum, .long o_seed, .ref o_isKept, .ref o_kept])), (o_text, .inl (cI, 56, .inl o_text_v)), (o_readBar, .inl (cI, 16, .inl (upd (upd o_readBar_v (Int32.toNatClampNeg (2 * o_readBars)) r1.1) (Int32.toNatClampNeg ((2 * o_readBars) + 1)) r3.1))), (o_readPlayer, .inl (cI, 24, .inl o_readPlayer_v))] := hD
        refine lv_goto (tgt := 185) hx hb dX5_readPart_174 (by decide) ?_
        subst hu
        exact hg_rvE hx hb hr hlk ⟨t4, ra, (rb + 1), et4, by omega, era, by omega, (nx_add erb (show (1 : Int32) = nI 1 from rfl)), by omega, (fun _ => by omega)⟩ hP hD hS dX5_readPart_185
  · have hu := hu.trans (if_pos c_3)
    refine lv_aload_n hx hb dX5_readPart_6 rfl (lv_at hl 0 rfl) ?_
    refine va_get (D := (dC, dI)) (ci := 5) (v := .int o_readPlayers) (C := RX5) (T := TX5) (N := 29) hx hb hts hinX5 hown hK hP 0 rfl rfl 11 (by decide) w1 (fun _ h9 => h9) rfl dX5_readPart_7 ?_
    refine lv_bipush (v := 6) hx hb dX5_readPart_10 (by decide) ?_
    refine lv_icmp_ge (tgt := 101) hx hb dX5_readPart_12 (by decide) (fun c_12 => ?_) (fun c_12 => ?_)
    · have hu := hu.trans (if_pos c_12)
      refine lv_iload_n hx hb dX5_readPart_101 rfl (lv_at hl 1 rfl) ?_
      refine lv_bipush (v := 66) hx hb dX5_readPart_102 (by decide) ?_
      refine lv_icmp_ne (tgt := 177) hx hb dX5_readPart_104 (by decide) (fun c_104 => ?_) (fun c_104 => ?_)
      · have hu := hu.trans (if_neg c_104)
        refine lv_aload_n hx hb dX5_readPart_177 rfl (lv_at hl 0 rfl) ?_
        refine lv_aload_n hx hb dX5_readPart_178 rfl (lv_at hl 0 rfl) ?_
        refine va_get (D := (dC, dI)) (ci := 5) (v := .int o_at) (C := RX5) (T := TX5) (N := 29) hx hb hts hinX5 hown hK hP 0 rfl rfl 15 (by decide) w2 (fun _ h9 => h9) rfl dX5_readPart_179 ?_
        refine va_put (D := (dC, dI)) (ci := 5) (v := .int o_at) (ty := .int) (C := RX5) (T := TX5) (N := 29) hx hb hts hinX5 tyX5 tyX5_ok nmX5 hown hK hP hD hS 0 rfl rfl 16 (by decide) w6 (fun _ h9 => h9) rfl (by decide +kernel) rfl rfl (Nat.le_of_ble_eq_true rfl) dX5_readPart_182 (fun H locs hP hD hS => ?_)
        have hP : va_P (dC, dI) vwCl [(o_h, .inr (5, [.int o_players, .int o_bars, .ref o_price, .ref o_breath, .ref o_kind, .ref o_looks, .ref o_noise, .ref o_repeat, .ref o_now, .ref o_readPlayer, .ref o_readBar, .int o_readPlayers, .int o_readBars, .ref o_text, .int o_length, .int o_at, .int o_at, .int o_acts, .int o_next, .ref o_row, .int o_heard, .ref o_heardOf, .ref o_heardBars, .ref o_heardPlays, .int o_hushWho, .int o_hushSum, .long o_seed, .ref o_isKept, .ref o_kept])), (o_text, .inl (cI, 56, .inl o_text_v)), (o_readBar, .inl (cI, 16, .inl o_readBar_v)), (o_readPlayer, .inl (cI, 24, .inl o_readPlayer_v))] H := hP
        have hD : va_D A [(o_h, .inr (5, [.int o_players, .int o_bars, .ref o_price, .ref o_breath, .ref o_kind, .ref o_looks, .ref o_noise, .ref o_repeat, .ref o_now, .ref o_readPlayer, .ref o_readBar, .int o_readPlayers, .int o_readBars, .ref o_text, .int o_length, .int o_at, .int o_at, .int o_acts, .int o_next, .ref o_row, .int o_heard, .ref o_heardOf, .ref o_heardBars, .ref o_heardPlays, .int o_hushWho, .int o_hushSum, .long o_seed, .ref o_isKept, .ref o_kept])), (o_text, .inl (cI, 56, .inl o_text_v)), (o_readBar, .inl (cI, 16, .inl o_readBar_v)), (o_readPlayer, .inl (cI, 24, .inl o_readPlayer_v))] := hD
        subst hu
        exact hg_rvE hx hb hr hlk ⟨ta, ra, rb, eta, by omega, era, by omega, erb, by omega, (fun hf => absurd hf (mNe9 eta (by omega)))⟩ hP hD hS dX5_readPart_185
      · have hu := hu.trans (if_pos c_104)
        refine lv_aload_n hx hb dX5_readPart_107 rfl (lv_at hl 0 rfl) ?_
        refine va_get (D := (dC, dI)) (ci := 5) (v := .int o_readBars) (C := RX5) (T := TX5) (N := 29) hx hb hts hinX5 hown hK hP 0 rfl rfl 12 (by decide) w4 (fun _ h9 => h9) rfl dX5_readPart_108 ?_
        refine lv_bipush (v := 8) hx hb dX5_readPart_111 (by decide) ?_
        refine lv_icmp_ge (tgt := 177) hx hb dX5_readPart_113 (by decide) (fun c_113 => ?_) (fun c_113 => ?_)
        · have hu := hu.trans (if_pos c_113)
          refine lv_aload_n hx hb dX5_readPart_177 rfl (lv_at hl 0 rfl) ?_
          refine lv_aload_n hx hb dX5_readPart_178 rfl (lv_at hl 0 rfl) ?_
          refine va_get (D := (dC, dI)) (ci := 5) (v := .int o_at) (C := RX5) (T := TX5) (N := 29) hx hb hts hinX5 hown hK hP 0 rfl rfl 15 (by decide) w2 (fun _ h9 => h9) rfl dX5_readPart_179 ?_
          refine va_put (D := (dC, dI)) (ci := 5) (v := .int o_at) (ty := .int) (C := RX5) (T := TX5) (N := 29) hx hb hts hinX5 tyX5 tyX5_ok nmX5 hown hK hP hD hS 0 rfl rfl 16 (by decide) w6 (fun _ h9 => h9) rfl (by decide +kernel) rfl rfl (Nat.le_of_ble_eq_true rfl) dX5_readPart_182 (fun H locs hP hD hS => ?_)
          have hP : va_P (dC, dI) vwCl [(o_h, .inr (5, [.int o_players, .int o_bars, .ref o_price, .ref o_breath, .ref o_kind, .ref o_looks, .ref o_noise, .ref o_repeat, .ref o_now, .ref o_readPlayer, .ref o_readBar, .int o_readPlayers, .int o_readBars, .ref o_text, .int o_length, .int o_at, .int o_at, .int o_acts, .int o_next, .ref o_row, .int o_heard, .ref o_heardOf, .ref o_heardBars, .ref o_heardPlays, .int o_hushWho, .int o_hushSum, .long o_seed, .ref o_isKept, .ref o_kept])), (o_text, .inl (cI, 56, .inl o_text_v)), (o_readBar, .inl (cI, 16, .inl o_readBar_v)), (o_readPlayer, .inl (cI, 24, .inl o_readPlayer_v))] H := hP
          have hD : va_D A [(o_h, .inr (5, [.int o_players, .int o_bars, .ref o_price, .ref o_breath, .ref o_kind, .ref o_looks, .ref o_noise, .ref o_repeat, .ref o_now, .ref o_readPlayer, .ref o_readBar, .int o_readPlayers, .int o_readBars, .ref o_text, .int o_length, .int o_at, .int o_at, .int o_acts, .int o_next, .ref o_row, .int o_heard, .ref o_heardOf, .ref o_heardBars, .ref o_heardPlays, .int o_hushWho, .int o_hushSum, .long o_seed, .ref o_isKept, .ref o_kept])), (o_text, .inl (cI, 56, .inl o_text_v)), (o_readBar, .inl (cI, 16, .inl o_readBar_v)), (o_readPlayer, .inl (cI, 24, .inl o_readPlayer_v))] := hD
          subst hu
          exact hg_rvE hx hb hr hlk ⟨ta, ra, rb, eta, by omega, era, by omega, erb, by omega, (fun hf => absurd hf (mNe9 eta (by omega)))⟩ hP hD hS dX5_readPart_185
        · have hu := hu.trans (if_neg c_113)
          have hrb2 : rb < 8 := hg_nltN erb (show (8 : Int32) = nI 8 from rfl) (by omega) (by decide) c_113
          refine lv_aload_n hx hb dX5_readPart_116 rfl (lv_at hl 0 rfl) ?_
          refine lv_dup hx hb dX5_readPart_117 rfl ?_
          refine va_get (D := (dC, dI)) (ci := 5) (v := .int o_at) (C := RX5) (T := TX5) (N := 29) hx hb hts hinX5 hown hK hP 0 rfl rfl 15 (by decide) w2 (fun _ h9 => h9) rfl dX5_readPart_118 ?_
          refine lv_iconst (v := 1) hx hb dX5_readPart_121 (by decide) ?_
          refine lv_iadd hx hb dX5_readPart_122 ?_
          refine va_put (D := (dC, dI)) (ci := 5) (v := .int (o_at + 1)) (ty := .int) (C := RX5) (T := TX5) (N := 29) hx hb hts hinX5 tyX5 tyX5_ok nmX5 hown hK hP hD hS 0 rfl rfl 15 (by decide) w2 (fun _ h9 => h9) rfl (by decide +kernel) rfl rfl (Nat.le_of_ble_eq_true rfl) dX5_readPart_123 (fun H locs hP hD hS => ?_)
          have hP : va_P (dC, dI) vwCl [(o_h, .inr (5, [.int o_players, .int o_bars, .ref o_price, .ref o_breath, .ref o_kind, .ref o_looks, .ref o_noise, .ref o_repeat, .ref o_now, .ref o_readPlayer, .ref o_readBar, .int o_readPlayers, .int o_readBars, .ref o_text, .int o_length, .int (o_at + 1), .int o_faultAt, .int o_acts, .int o_next, .ref o_row, .int o_heard, .ref o_heardOf, .ref o_heardBars, .ref o_heardPlays, .int o_hushWho, .int o_hushSum, .long o_seed, .ref o_isKept, .ref o_kept])), (o_text, .inl (cI, 56, .inl o_text_v)), (o_readBar, .inl (cI, 16, .inl o_readBar_v)), (o_readPlayer, .inl (cI, 24, .inl o_readPlayer_v))] H := hP
          have hD : va_D A [(o_h, .inr (5, [.int o_players, .int o_bars, .ref o_price, .ref o_breath, .ref o_kind, .ref o_looks, .ref o_noise, .ref o_repeat, .ref o_now, .ref o_readPlayer, .ref o_readBar, .int o_readPlayers, .int o_readBars, .ref o_text, .int o_length, .int (o_at + 1), .int o_faultAt, .int o_acts, .int o_next, .ref o_row, .int o_heard, .ref o_heardOf, .ref o_heardBars, .ref o_heardPlays, .int o_hushWho, .int o_hushSum, .long o_seed, .ref o_isKept, .ref o_kept])), (o_text, .inl (cI, 56, .inl o_text_v)), (o_readBar, .inl (cI, 16, .inl o_readBar_v)), (o_readPlayer, .inl (cI, 24, .inl o_readPlayer_v))] := hD
          refine lv_aload_n hx hb dX5_readPart_126 rfl (lv_at hl 0 rfl) ?_
          refine va_get (D := (dC, dI)) (ci := 5) (v := .ref o_readBar) (C := RX5) (T := TX5) (N := 29) hx hb hts hinX5 hown hK hP 0 rfl rfl 10 (by decide) w5 (fun _ h9 => h9) rfl dX5_readPart_127 ?_
          refine lv_iconst (v := 2) hx hb dX5_readPart_130 (by decide) ?_
          refine lv_aload_n hx hb dX5_readPart_131 rfl (lv_at hl 0 rfl) ?_
          refine va_get (D := (dC, dI)) (ci := 5) (v := .int o_readBars) (C := RX5) (T := TX5) (N := 29) hx hb hts hinX5 hown hK hP 0 rfl rfl 12 (by decide) w4 (fun _ h9 => h9) rfl dX5_readPart_132 ?_
          refine lv_imul hx hb dX5_readPart_135 ?_
          refine lv_aload_n hx hb dX5_readPart_136 rfl (lv_at hl 0 rfl) ?_
          refine lv_iconst (v := 0) hx hb dX5_readPart_137 (by decide) ?_
          refine lv_bipush (v := 9) hx hb dX5_readPart_138 (by decide) ?_
          obtain ⟨r5, er5, hu⟩ := lxb_o hu
          refine hg_ci (va_runV (As := [.int 0, .int 9]) (rest := [.int (2 * o_readBars), .ref o_readBar]) ⟨hx, hb, hml, hown, hts⟩ (c_X5_figureOf l dC dI cI cZ cM _ o_h 0 9 o_players o_bars o_price o_breath o_kind o_looks o_noise o_repeat o_now o_readPlayer o_readBar o_readPlayers o_readBars o_text o_length (o_at + 1) o_faultAt o_acts o_next o_row o_heard o_heardOf o_heardBars o_heardPlays o_hushWho o_hushSum o_seed o_isKept o_kept o_text_v np enp (by omega) nb enb (by omega) (ta + 1) (nx_add eta (show (1 : Int32) = nI 1 from rfl)) (by omega) nl enl (by omega) r5 er5) (cwV 2 hts gX5_readPart_X5_figureOf rfl rfl rfl (by decide +kernel) ⟨Nat.le_of_ble_eq_true rfl, Nat.le_of_ble_eq_true rfl⟩) (hgPreV (C := RX5) (T := TX5) (N := 29) (ci := 5) (q0 := 0) hP hD hK hN [0, 1] rfl rfl rfl rfl) rfl rfl hl.1 rfl (lv_room (Nat.le_of_ble_eq_true rfl)) dX5_readPart_140 ⟨Nat.zero_le _, Nat.zero_le _⟩) hP hD hS hA (wr := [(o_readBar, .inl (cI, 16, .inl o_readBar_v)), (o_readPlayer, .inl (cI, 24, .inl o_readPlayer_v))]) (wf := [(o_h, .inr (5, [.int o_players, .int o_bars, .ref o_price, .ref o_breath, .ref o_kind, .ref o_looks, .ref o_noise, .ref o_repeat, .ref o_now, .ref o_readPlayer, .ref o_readBar, .int o_readPlayers, .int o_readBars, .ref o_text, .int o_length, .int r5.2.1, .int r5.2.2, .int o_acts, .int o_next, .ref o_row, .int o_heard, .ref o_heardOf, .ref o_heardBars, .ref o_heardPlays, .int o_hushWho, .int o_hushSum, .long o_seed, .ref o_isKept, .ref o_kept])), (o_text, .inl (cI, 56, .inl o_text_v)), (o_readBar, .inl (cI, 16, .inl o_readBar_v)), (o_readPlayer, .inl (cI, 24, .inl o_readPlayer_v))]) [0, 1] [2, 3] [2, 3, 0, 1] rfl rfl rfl (by decide) rfl rfl (fun H locs hP hD hS => ?_)
          obtain ⟨t6, et6, ht6a, ht6b⟩ := mFig enl (nx_add eta (show (1 : Int32) = nI 1 from rfl)) (by omega) er5
          refine va_iast hx hb hK hP hD hS 2 0 rfl rfl (n := 16) (f := o_readBar_v) (hg_in (n := (2 * rb)) (N := 16) (nx_mul (show (2 : Int32) = nI 2 from rfl) erb) (by omega) (by decide)) dX5_readPart_143 (fun H locs hP hD hS => ?_)
          have hP : va_P (dC, dI) vwCl [(o_h, .inr (5, [.int o_players, .int o_bars, .ref o_price, .ref o_breath, .ref o_kind, .ref o_looks, .ref o_noise, .ref o_repeat, .ref o_now, .ref o_readPlayer, .ref o_readBar, .int o_readPlayers, .int o_readBars, .ref o_text, .int o_length, .int r5.2.1, .int r5.2.2, .int o_acts, .int o_next, .ref o_row, .int o_heard, .ref o_heardOf, .ref o_heardBars, .ref o_heardPlays, .int o_hushWho, .int o_hushSum, .long o_seed, .ref o_isKept, .ref o_kept])), (o_text, .inl (cI, 56, .inl o_text_v)), (o_readBar, .inl (cI, 16, .inl (upd o_readBar_v (Int32.toNatClampNeg (2 * o_readBars)) r5.1))), (o_readPlayer, .inl (cI, 24, .inl o_readPlayer_v))] H := hP
          have hD : va_D A [(o_h, .inr (5, [.int o_players, .int o_bars, .ref o_price, .ref o_breath, .ref o_kind, .ref o_looks, .ref o_noise, .ref o_repeat, .ref o_now, .ref o_readPlayer, .ref o_readBar, .int o_readPlayers, .int o_readBars, .ref o_text, .int o_length, .int r5.2.1, .int r5.2.2, .int o_acts, .int o_next, .ref o_row, .int o_heard, .ref o_heardOf, .ref o_heardBars, .ref o_heardPlays, .int o_hushWho, .int o_hushSum, .long o_seed, .ref o_isKept, .ref o_kept])), (o_text, .inl (cI, 56, .inl o_text_v)), (o_readBar, .inl (cI, 16, .inl (upd o_readBar_v (Int32.toNatClampNeg (2 * o_readBars)) r5.1))), (o_readPlayer, .inl (cI, 24, .inl o_readPlayer_v))] := hD
          refine lv_aload_n hx hb dX5_readPart_144 rfl (lv_at hl 0 rfl) ?_
          refine va_get (D := (dC, dI)) (ci := 5) (v := .ref o_readBar) (C := RX5) (T := TX5) (N := 29) hx hb hts hinX5 hown hK hP 0 rfl rfl 10 (by decide) w5 (fun _ h9 => h9) rfl dX5_readPart_145 ?_
          refine lv_iconst (v := 2) hx hb dX5_readPart_148 (by decide) ?_
          refine lv_aload_n hx hb dX5_readPart_149 rfl (lv_at hl 0 rfl) ?_
          refine va_get (D := (dC, dI)) (ci := 5) (v := .int o_readBars) (C := RX5) (T := TX5) (N := 29) hx hb hts hinX5 hown hK hP 0 rfl rfl 12 (by decide) w4 (fun _ h9 => h9) rfl dX5_readPart_150 ?_
          refine lv_imul hx hb dX5_readPart_153 ?_
          refine lv_iconst (v := 1) hx hb dX5_readPart_154 (by decide) ?_
          refine lv_iadd hx hb dX5_readPart_155 ?_
          refine lv_aload_n hx hb dX5_readPart_156 rfl (lv_at hl 0 rfl) ?_
          refine lv_iconst (v := 0) hx hb dX5_readPart_157 (by decide) ?_
          refine lv_bipush (v := 7) hx hb dX5_readPart_158 (by decide) ?_
          obtain ⟨r7, er7, hu⟩ := lxb_o hu
          refine hg_ci (va_runV (As := [.int 0, .int 7]) (rest := [.int ((2 * o_readBars) + 1), .ref o_readBar]) ⟨hx, hb, hml, hown, hts⟩ (c_X5_figureOf l dC dI cI cZ cM _ o_h 0 7 o_players o_bars o_price o_breath o_kind o_looks o_noise o_repeat o_now o_readPlayer o_readBar o_readPlayers o_readBars o_text o_length r5.2.1 r5.2.2 o_acts o_next o_row o_heard o_heardOf o_heardBars o_heardPlays o_hushWho o_hushSum o_seed o_isKept o_kept o_text_v np enp (by omega) nb enb (by omega) t6 et6 (by omega) nl enl (by omega) r7 er7) (cwV 2 hts gX5_readPart_X5_figureOf rfl rfl rfl (by decide +kernel) ⟨Nat.le_of_ble_eq_true rfl, Nat.le_of_ble_eq_true rfl⟩) (hgPreV (C := RX5) (T := TX5) (N := 29) (ci := 5) (q0 := 0) hP hD hK hN [0, 1] rfl rfl rfl rfl) rfl rfl hl.1 rfl (lv_room (Nat.le_of_ble_eq_true rfl)) dX5_readPart_160 ⟨Nat.zero_le _, Nat.zero_le _⟩) hP hD hS hA (wr := [(o_readBar, .inl (cI, 16, .inl (upd o_readBar_v (Int32.toNatClampNeg (2 * o_readBars)) r5.1))), (o_readPlayer, .inl (cI, 24, .inl o_readPlayer_v))]) (wf := [(o_h, .inr (5, [.int o_players, .int o_bars, .ref o_price, .ref o_breath, .ref o_kind, .ref o_looks, .ref o_noise, .ref o_repeat, .ref o_now, .ref o_readPlayer, .ref o_readBar, .int o_readPlayers, .int o_readBars, .ref o_text, .int o_length, .int r7.2.1, .int r7.2.2, .int o_acts, .int o_next, .ref o_row, .int o_heard, .ref o_heardOf, .ref o_heardBars, .ref o_heardPlays, .int o_hushWho, .int o_hushSum, .long o_seed, .ref o_isKept, .ref o_kept])), (o_text, .inl (cI, 56, .inl o_text_v)), (o_readBar, .inl (cI, 16, .inl (upd o_readBar_v (Int32.toNatClampNeg (2 * o_readBars)) r5.1))), (o_readPlayer, .inl (cI, 24, .inl o_readPlayer_v))]) [0, 1] [2, 3] [2, 3, 0, 1] rfl rfl rfl (by decide) rfl rfl (fun H locs hP hD hS => ?_)
          obtain ⟨t8, et8, ht8a, ht8b⟩ := mFig enl et6 (by omega) er7
          refine va_iast hx hb hK hP hD hS 2 0 rfl rfl (n := 16) (f := (upd o_readBar_v (Int32.toNatClampNeg (2 * o_readBars)) r5.1)) (hg_in (n := ((2 * rb) + 1)) (N := 16) (nx_add (nx_mul (show (2 : Int32) = nI 2 from rfl) erb) (show (1 : Int32) = nI 1 from rfl)) (by omega) (by decide)) dX5_readPart_163 (fun H locs hP hD hS => ?_)
          have hP : va_P (dC, dI) vwCl [(o_h, .inr (5, [.int o_players, .int o_bars, .ref o_price, .ref o_breath, .ref o_kind, .ref o_looks, .ref o_noise, .ref o_repeat, .ref o_now, .ref o_readPlayer, .ref o_readBar, .int o_readPlayers, .int o_readBars, .ref o_text, .int o_length, .int r7.2.1, .int r7.2.2, .int o_acts, .int o_next, .ref o_row, .int o_heard, .ref o_heardOf, .ref o_heardBars, .ref o_heardPlays, .int o_hushWho, .int o_hushSum, .long o_seed, .ref o_isKept, .ref o_kept])), (o_text, .inl (cI, 56, .inl o_text_v)), (o_readBar, .inl (cI, 16, .inl (upd (upd o_readBar_v (Int32.toNatClampNeg (2 * o_readBars)) r5.1) (Int32.toNatClampNeg ((2 * o_readBars) + 1)) r7.1))), (o_readPlayer, .inl (cI, 24, .inl o_readPlayer_v))] H := hP
          have hD : va_D A [(o_h, .inr (5, [.int o_players, .int o_bars, .ref o_price, .ref o_breath, .ref o_kind, .ref o_looks, .ref o_noise, .ref o_repeat, .ref o_now, .ref o_readPlayer, .ref o_readBar, .int o_readPlayers, .int o_readBars, .ref o_text, .int o_length, .int r7.2.1, .int r7.2.2, .int o_acts, .int o_next, .ref o_row, .int o_heard, .ref o_heardOf, .ref o_heardBars, .ref o_heardPlays, .int o_hushWho, .int o_hushSum, .long o_seed, .ref o_isKept, .ref o_kept])), (o_text, .inl (cI, 56, .inl o_text_v)), (o_readBar, .inl (cI, 16, .inl (upd (upd o_readBar_v (Int32.toNatClampNeg (2 * o_readBars)) r5.1) (Int32.toNatClampNeg ((2 * o_readBars) + 1)) r7.1))), (o_readPlayer, .inl (cI, 24, .inl o_readPlayer_v))] := hD
          refine lv_aload_n hx hb dX5_readPart_164 rfl (lv_at hl 0 rfl) ?_
          refine lv_dup hx hb dX5_readPart_165 rfl ?_
          refine va_get (D := (dC, dI)) (ci := 5) (v := .int o_readBars) (C := RX5) (T := TX5) (N := 29) hx hb hts hinX5 hown hK hP 0 rfl rfl 12 (by decide) w4 (fun _ h9 => h9) rfl dX5_readPart_166 ?_
          refine lv_iconst (v := 1) hx hb dX5_readPart_169 (by decide) ?_
          refine lv_iadd hx hb dX5_readPart_170 ?_
          refine va_put (D := (dC, dI)) (ci := 5) (v := .int (o_readBars + 1)) (ty := .int) (C := RX5) (T := TX5) (N := 29) hx hb hts hinX5 tyX5 tyX5_ok nmX5 hown hK hP hD hS 0 rfl rfl 12 (by decide) w4 (fun _ h9 => h9) rfl (by decide +kernel) rfl rfl (Nat.le_of_ble_eq_true rfl) dX5_readPart_171 (fun H locs hP hD hS => ?_)
          have hP : va_P (dC, dI) vwCl [(o_h, .inr (5, [.int o_players, .int o_bars, .ref o_price, .ref o_breath, .ref o_kind, .ref o_looks, .ref o_noise, .ref o_repeat, .ref o_now, .ref o_readPlayer, .ref o_readBar, .int o_readPlayers, .int (o_readBars + 1), .ref o_text, .int o_length, .int r7.2.1, .int r7.2.2, .int o_acts, .int o_next, .ref o_row, .int o_heard, .ref o_heardOf, .ref o_heardBars, .ref o_heardPlays, .int o_hushWho, .int o_hushSum, .long o_seed, .ref o_isKept, .ref o_kept])), (o_text, .inl (cI, 56, .inl o_text_v)), (o_readBar, .inl (cI, 16, .inl (upd (upd o_readBar_v (Int32.toNatClampNeg (2 * o_readBars)) r5.1) (Int32.toNatClampNeg ((2 * o_readBars) + 1)) r7.1))), (o_readPlayer, .inl (cI, 24, .inl o_readPlayer_v))] H := hP
          have hD : va_D A [(o_h, .inr (5, [.int o_players, .int o_bars, .ref o_price, .ref o_breath, .ref o_kind, .ref o_looks, .ref o_noise, .ref o_repeat, .ref o_now, .ref o_readPlayer, .ref o_readBar, .int o_readPlayers, .int (o_readBars + 1), .ref o_text, .int o_length, .int r7.2.1, .int r7.2.2, .int o_acts, .int o_next, .ref o_row, .int o_heard, .ref o_heardOf, .ref o_heardBars, .ref o_heardPlays, .int o_hushWho, .int o_hushSum, .long o_seed, .ref o_isKept, .ref o_kept])), (o_text, .inl (cI, 56, .inl o_text_v)), (o_readBar, .inl (cI, 16, .inl (upd (upd o_readBar_v (Int32.toNatClampNeg (2 * o_readBars)) r5.1) (Int32.toNatClampNeg ((2 * o_readBars) + 1)) r7.1))), (o_readPlayer, .inl (cI, 24, .inl o_readPlayer_v))] := hD
          refine lv_goto (tgt := 185) hx hb dX5_readPart_174 (by decide) ?_
          subst hu
          exact hg_rvE hx hb hr hlk ⟨t8, ra, (rb + 1), et8, by omega, era, by omega, (nx_add erb (show (1 : Int32) = nI 1 from rfl)), by omega, (fun _ => by omega)⟩ hP hD hS dX5_readPart_185
    · have hu := hu.trans (if_neg c_12)
      have hra2 : ra < 6 := hg_nltN era (show (6 : Int32) = nI 6 from rfl) (by omega) (by decide) c_12
      refine lv_aload_n hx hb dX5_readPart_15 rfl (lv_at hl 0 rfl) ?_
      refine lv_dup hx hb dX5_readPart_16 rfl ?_
      refine va_get (D := (dC, dI)) (ci := 5) (v := .int o_at) (C := RX5) (T := TX5) (N := 29) hx hb hts hinX5 hown hK hP 0 rfl rfl 15 (by decide) w2 (fun _ h9 => h9) rfl dX5_readPart_17 ?_
      refine lv_iconst (v := 1) hx hb dX5_readPart_20 (by decide) ?_
      refine lv_iadd hx hb dX5_readPart_21 ?_
      refine va_put (D := (dC, dI)) (ci := 5) (v := .int (o_at + 1)) (ty := .int) (C := RX5) (T := TX5) (N := 29) hx hb hts hinX5 tyX5 tyX5_ok nmX5 hown hK hP hD hS 0 rfl rfl 15 (by decide) w2 (fun _ h9 => h9) rfl (by decide +kernel) rfl rfl (Nat.le_of_ble_eq_true rfl) dX5_readPart_22 (fun H locs hP hD hS => ?_)
      have hP : va_P (dC, dI) vwCl [(o_h, .inr (5, [.int o_players, .int o_bars, .ref o_price, .ref o_breath, .ref o_kind, .ref o_looks, .ref o_noise, .ref o_repeat, .ref o_now, .ref o_readPlayer, .ref o_readBar, .int o_readPlayers, .int o_readBars, .ref o_text, .int o_length, .int (o_at + 1), .int o_faultAt, .int o_acts, .int o_next, .ref o_row, .int o_heard, .ref o_heardOf, .ref o_heardBars, .ref o_heardPlays, .int o_hushWho, .int o_hushSum, .long o_seed, .ref o_isKept, .ref o_kept])), (o_text, .inl (cI, 56, .inl o_text_v)), (o_readBar, .inl (cI, 16, .inl o_readBar_v)), (o_readPlayer, .inl (cI, 24, .inl o_readPlayer_v))] H := hP
      have hD : va_D A [(o_h, .inr (5, [.int o_players, .int o_bars, .ref o_price, .ref o_breath, .ref o_kind, .ref o_looks, .ref o_noise, .ref o_repeat, .ref o_now, .ref o_readPlayer, .ref o_readBar, .int o_readPlayers, .int o_readBars, .ref o_text, .int o_length, .int (o_at + 1), .int o_faultAt, .int o_acts, .int o_next, .ref o_row, .int o_heard, .ref o_heardOf, .ref o_heardBars, .ref o_heardPlays, .int o_hushWho, .int o_hushSum, .long o_seed, .ref o_isKept, .ref o_kept])), (o_text, .inl (cI, 56, .inl o_text_v)), (o_readBar, .inl (cI, 16, .inl o_readBar_v)), (o_readPlayer, .inl (cI, 24, .inl o_readPlayer_v))] := hD
      refine lv_iconst (v := 4) hx hb dX5_readPart_25 (by decide) ?_
      refine lv_aload_n hx hb dX5_readPart_26 rfl (lv_at hl 0 rfl) ?_
      refine va_get (D := (dC, dI)) (ci := 5) (v := .int o_readPlayers) (C := RX5) (T := TX5) (N := 29) hx hb hts hinX5 hown hK hP 0 rfl rfl 11 (by decide) w1 (fun _ h9 => h9) rfl dX5_readPart_27 ?_
      refine lv_imul hx hb dX5_readPart_30 ?_
      refine lv_istore_n (lv' := [(2, .int (4 * o_readPlayers)), (0, .ref o_h), (1, .int x0)]) hx hb dX5_readPart_31 rfl hl (by decide) rfl (fun ls hl => ?_)
      refine lv_aload_n hx hb dX5_readPart_32 rfl (lv_at hl 1 rfl) ?_
      refine va_get (D := (dC, dI)) (ci := 5) (v := .ref o_readPlayer) (C := RX5) (T := TX5) (N := 29) hx hb hts hinX5 hown hK hP 0 rfl rfl 9 (by decide) w3 (fun _ h9 => h9) rfl dX5_readPart_33 ?_
      refine lv_iload_n hx hb dX5_readPart_36 rfl (lv_at hl 0 rfl) ?_
      refine lv_aload_n hx hb dX5_readPart_37 rfl (lv_at hl 1 rfl) ?_
      refine lv_iconst (v := 1) hx hb dX5_readPart_38 (by decide) ?_
      refine lv_bipush (v := 9) hx hb dX5_readPart_39 (by decide) ?_
      obtain ⟨r9, er9, hu⟩ := lxb_o hu
      refine hg_ci (va_runV (As := [.int 1, .int 9]) (rest := [.int (4 * o_readPlayers), .ref o_readPlayer]) ⟨hx, hb, hml, hown, hts⟩ (c_X5_figureOf l dC dI cI cZ cM _ o_h 1 9 o_players o_bars o_price o_breath o_kind o_looks o_noise o_repeat o_now o_readPlayer o_readBar o_readPlayers o_readBars o_text o_length (o_at + 1) o_faultAt o_acts o_next o_row o_heard o_heardOf o_heardBars o_heardPlays o_hushWho o_hushSum o_seed o_isKept o_kept o_text_v np enp (by omega) nb enb (by omega) (ta + 1) (nx_add eta (show (1 : Int32) = nI 1 from rfl)) (by omega) nl enl (by omega) r9 er9) (cwV 2 hts gX5_readPart_X5_figureOf rfl rfl rfl (by decide +kernel) ⟨Nat.le_of_ble_eq_true rfl, Nat.le_of_ble_eq_true rfl⟩) (hgPreV (C := RX5) (T := TX5) (N := 29) (ci := 5) (q0 := 0) hP hD hK hN [0, 1] rfl rfl rfl rfl) rfl rfl hl.1 rfl (lv_room (Nat.le_of_ble_eq_true rfl)) dX5_readPart_41 ⟨Nat.zero_le _, Nat.zero_le _⟩) hP hD hS hA (wr := [(o_readBar, .inl (cI, 16, .inl o_readBar_v)), (o_readPlayer, .inl (cI, 24, .inl o_readPlayer_v))]) (wf := [(o_h, .inr (5, [.int o_players, .int o_bars, .ref o_price, .ref o_breath, .ref o_kind, .ref o_looks, .ref o_noise, .ref o_repeat, .ref o_now, .ref o_readPlayer, .ref o_readBar, .int o_readPlayers, .int o_readBars, .ref o_text, .int o_length, .int r9.2.1, .int r9.2.2, .int o_acts, .int o_next, .ref o_row, .int o_heard, .ref o_heardOf, .ref o_heardBars, .ref o_heardPlays, .int o_hushWho, .int o_hushSum, .long o_seed, .ref o_isKept, .ref o_kept])), (o_text, .inl (cI, 56, .inl o_text_v)), (o_readBar, .inl (cI, 16, .inl o_readBar_v)), (o_readPlayer, .inl (cI, 24, .inl o_readPlayer_v))]) [0, 1] [2, 3] [2, 3, 0, 1] rfl rfl rfl (by decide) rfl rfl (fun H locs hP hD hS => ?_)
      obtain ⟨t10, et10, ht10a, ht10b⟩ := mFig enl (nx_add eta (show (1 : Int32) = nI 1 from rfl)) (by omega) er9
      refine va_iast hx hb hK hP hD hS 3 0 rfl rfl (n := 24) (f := o_readPlayer_v) (hg_in (n := (4 * ra)) (N := 24) (nx_mul (show (4 : Int32) = nI 4 from rfl) era) (by omega) (by decide)) dX5_readPart_44 (fun H locs hP hD hS => ?_)
      have hP : va_P (dC, dI) vwCl [(o_h, .inr (5, [.int o_players, .int o_bars, .ref o_price, .ref o_breath, .ref o_kind, .ref o_looks, .ref o_noise, .ref o_repeat, .ref o_now, .ref o_readPlayer, .ref o_readBar, .int o_readPlayers, .int o_readBars, .ref o_text, .int o_length, .int r9.2.1, .int r9.2.2, .int o_acts, .int o_next, .ref o_row, .int o_heard, .ref o_heardOf, .ref o_heardBars, .ref o_heardPlays, .int o_hushWho, .int o_hushSum, .long o_seed, .ref o_isKept, .ref o_kept])), (o_text, .inl (cI, 56, .inl o_text_v)), (o_readBar, .inl (cI, 16, .inl o_readBar_v)), (o_readPlayer, .inl (cI, 24, .inl (upd o_readPlayer_v (Int32.toNatClampNeg (4 * o_readPlayers)) r9.1)))] H := hP
      have hD : va_D A [(o_h, .inr (5, [.int o_players, .int o_bars, .ref o_price, .ref o_breath, .ref o_kind, .ref o_looks, .ref o_noise, .ref o_repeat, .ref o_now, .ref o_readPlayer, .ref o_readBar, .int o_readPlayers, .int o_readBars, .ref o_text, .int o_length, .int r9.2.1, .int r9.2.2, .int o_acts, .int o_next, .ref o_row, .int o_heard, .ref o_heardOf, .ref o_heardBars, .ref o_heardPlays, .int o_hushWho, .int o_hushSum, .long o_seed, .ref o_isKept, .ref o_kept])), (o_text, .inl (cI, 56, .inl o_text_v)), (o_readBar, .inl (cI, 16, .inl o_readBar_v)), (o_readPlayer, .inl (cI, 24, .inl (upd o_readPlayer_v (Int32.toNatClampNeg (4 * o_readPlayers)) r9.1)))] := hD
      refine lv_aload_n hx hb dX5_readPart_45 rfl (lv_at hl 1 rfl) ?_
      refine va_get (D := (dC, dI)) (ci := 5) (v := .ref o_readPlayer) (C := RX5) (T := TX5) (N := 29) hx hb hts hinX5 hown hK hP 0 rfl rfl 9 (by decide) w3 (fun _ h9 => h9) rfl dX5_readPart_46 ?_
      refine lv_iload_n hx hb dX5_readPart_49 rfl (lv_at hl 0 rfl) ?_
      refine lv_iconst (v := 1) hx hb dX5_readPart_50 (by decide) ?_
      refine lv_iadd hx hb dX5_readPart_51 ?_
      refine lv_aload_n hx hb dX5_readPart_52 rfl (lv_at hl 1 rfl) ?_
      refine lv_iconst (v := 0) hx hb dX5_readPart_53 (by decide) ?_
      refine lv_bipush (v := 9) hx hb dX5_readPart_54 (by decide) ?_
      obtain ⟨r11, er11, hu⟩ := lxb_o hu
      refine hg_ci (va_runV (As := [.int 0, .int 9]) (rest := [.int ((4 * o_readPlayers) + 1), .ref o_readPlayer]) ⟨hx, hb, hml, hown, hts⟩ (c_X5_figureOf l dC dI cI cZ cM _ o_h 0 9 o_players o_bars o_price o_breath o_kind o_looks o_noise o_repeat o_now o_readPlayer o_readBar o_readPlayers o_readBars o_text o_length r9.2.1 r9.2.2 o_acts o_next o_row o_heard o_heardOf o_heardBars o_heardPlays o_hushWho o_hushSum o_seed o_isKept o_kept o_text_v np enp (by omega) nb enb (by omega) t10 et10 (by omega) nl enl (by omega) r11 er11) (cwV 2 hts gX5_readPart_X5_figureOf rfl rfl rfl (by decide +kernel) ⟨Nat.le_of_ble_eq_true rfl, Nat.le_of_ble_eq_true rfl⟩) (hgPreV (C := RX5) (T := TX5) (N := 29) (ci := 5) (q0 := 0) hP hD hK hN [0, 1] rfl rfl rfl rfl) rfl rfl hl.1 rfl (lv_room (Nat.le_of_ble_eq_true rfl)) dX5_readPart_56 ⟨Nat.zero_le _, Nat.zero_le _⟩) hP hD hS hA (wr := [(o_readBar, .inl (cI, 16, .inl o_readBar_v)), (o_readPlayer, .inl (cI, 24, .inl (upd o_readPlayer_v (Int32.toNatClampNeg (4 * o_readPlayers)) r9.1)))]) (wf := [(o_h, .inr (5, [.int o_players, .int o_bars, .ref o_price, .ref o_breath, .ref o_kind, .ref o_looks, .ref o_noise, .ref o_repeat, .ref o_now, .ref o_readPlayer, .ref o_readBar, .int o_readPlayers, .int o_readBars, .ref o_text, .int o_length, .int r11.2.1, .int r11.2.2, .int o_acts, .int o_next, .ref o_row, .int o_heard, .ref o_heardOf, .ref o_heardBars, .ref o_heardPlays, .int o_hushWho, .int o_hushSum, .long o_seed, .ref o_isKept, .ref o_kept])), (o_text, .inl (cI, 56, .inl o_text_v)), (o_readBar, .inl (cI, 16, .inl o_readBar_v)), (o_readPlayer, .inl (cI, 24, .inl (upd o_readPlayer_v (Int32.toNatClampNeg (4 * o_readPlayers)) r9.1)))]) [0, 1] [2, 3] [2, 3, 0, 1] rfl rfl rfl (by decide) rfl rfl (fun H locs hP hD hS => ?_)
      obtain ⟨t12, et12, ht12a, ht12b⟩ := mFig enl et10 (by omega) er11
      refine va_iast hx hb hK hP hD hS 3 0 rfl rfl (n := 24) (f := (upd o_readPlayer_v (Int32.toNatClampNeg (4 * o_readPlayers)) r9.1)) (hg_in (n := ((4 * ra) + 1)) (N := 24) (nx_add (nx_mul (show (4 : Int32) = nI 4 from rfl) era) (show (1 : Int32) = nI 1 from rfl)) (by omega) (by decide)) dX5_readPart_59 (fun H locs hP hD hS => ?_)
      have hP : va_P (dC, dI) vwCl [(o_h, .inr (5, [.int o_players, .int o_bars, .ref o_price, .ref o_breath, .ref o_kind, .ref o_looks, .ref o_noise, .ref o_repeat, .ref o_now, .ref o_readPlayer, .ref o_readBar, .int o_readPlayers, .int o_readBars, .ref o_text, .int o_length, .int r11.2.1, .int r11.2.2, .int o_acts, .int o_next, .ref o_row, .int o_heard, .ref o_heardOf, .ref o_heardBars, .ref o_heardPlays, .int o_hushWho, .int o_hushSum, .long o_seed, .ref o_isKept, .ref o_kept])), (o_text, .inl (cI, 56, .inl o_text_v)), (o_readBar, .inl (cI, 16, .inl o_readBar_v)), (o_readPlayer, .inl (cI, 24, .inl (upd (upd o_readPlayer_v (Int32.toNatClampNeg (4 * o_readPlayers)) r9.1) (Int32.toNatClampNeg ((4 * o_readPlayers) + 1)) r11.1)))] H := hP
      have hD : va_D A [(o_h, .inr (5, [.int o_players, .int o_bars, .ref o_price, .ref o_breath, .ref o_kind, .ref o_looks, .ref o_noise, .ref o_repeat, .ref o_now, .ref o_readPlayer, .ref o_readBar, .int o_readPlayers, .int o_readBars, .ref o_text, .int o_length, .int r11.2.1, .int r11.2.2, .int o_acts, .int o_next, .ref o_row, .int o_heard, .ref o_heardOf, .ref o_heardBars, .ref o_heardPlays, .int o_hushWho, .int o_hushSum, .long o_seed, .ref o_isKept, .ref o_kept])), (o_text, .inl (cI, 56, .inl o_text_v)), (o_readBar, .inl (cI, 16, .inl o_readBar_v)), (o_readPlayer, .inl (cI, 24, .inl (upd (upd o_readPlayer_v (Int32.toNatClampNeg (4 * o_readPlayers)) r9.1) (Int32.toNatClampNeg ((4 * o_readPlayers) + 1)) r11.1)))] := hD
      refine lv_aload_n hx hb dX5_readPart_60 rfl (lv_at hl 1 rfl) ?_
      refine va_get (D := (dC, dI)) (ci := 5) (v := .ref o_readPlayer) (C := RX5) (T := TX5) (N := 29) hx hb hts hinX5 hown hK hP 0 rfl rfl 9 (by decide) w3 (fun _ h9 => h9) rfl dX5_readPart_61 ?_
      refine lv_iload_n hx hb dX5_readPart_64 rfl (lv_at hl 0 rfl) ?_
      refine lv_iconst (v := 2) hx hb dX5_readPart_65 (by decide) ?_
      refine lv_iadd hx hb dX5_readPart_66 ?_
      refine lv_aload_n hx hb dX5_readPart_67 rfl (lv_at hl 1 rfl) ?_
      refine lv_iconst (v := 0) hx hb dX5_readPart_68 (by decide) ?_
      refine lv_iconst (v := 3) hx hb dX5_readPart_69 (by decide) ?_
      obtain ⟨r13, er13, hu⟩ := lxb_o hu
      refine hg_ci (va_runV (As := [.int 0, .int 3]) (rest := [.int ((4 * o_readPlayers) + 2), .ref o_readPlayer]) ⟨hx, hb, hml, hown, hts⟩ (c_X5_figureOf l dC dI cI cZ cM _ o_h 0 3 o_players o_bars o_price o_breath o_kind o_looks o_noise o_repeat o_now o_readPlayer o_readBar o_readPlayers o_readBars o_text o_length r11.2.1 r11.2.2 o_acts o_next o_row o_heard o_heardOf o_heardBars o_heardPlays o_hushWho o_hushSum o_seed o_isKept o_kept o_text_v np enp (by omega) nb enb (by omega) t12 et12 (by omega) nl enl (by omega) r13 er13) (cwV 2 hts gX5_readPart_X5_figureOf rfl rfl rfl (by decide +kernel) ⟨Nat.le_of_ble_eq_true rfl, Nat.le_of_ble_eq_true rfl⟩) (hgPreV (C := RX5) (T := TX5) (N := 29) (ci := 5) (q0 := 0) hP hD hK hN [0, 1] rfl rfl rfl rfl) rfl rfl hl.1 rfl (lv_room (Nat.le_of_ble_eq_true rfl)) dX5_readPart_70 ⟨Nat.zero_le _, Nat.zero_le _⟩) hP hD hS hA (wr := [(o_readBar, .inl (cI, 16, .inl o_readBar_v)), (o_readPlayer, .inl (cI, 24, .inl (upd (upd o_readPlayer_v (Int32.toNatClampNeg (4 * o_readPlayers)) r9.1) (Int32.toNatClampNeg ((4 * o_readPlayers) + 1)) r11.1)))]) (wf := [(o_h, .inr (5, [.int o_players, .int o_bars, .ref o_price, .ref o_breath, .ref o_kind, .ref o_looks, .ref o_noise, .ref o_repeat, .ref o_now, .ref o_readPlayer, .ref o_readBar, .int o_readPlayers, .int o_readBars, .ref o_text, .int o_length, .int r13.2.1, .int r13.2.2, .int o_acts, .int o_next, .ref o_row, .int o_heard, .ref o_heardOf, .ref o_heardBars, .ref o_heardPlays, .int o_hushWho, .int o_hushSum, .long o_seed, .ref o_isKept, .ref o_kept])), (o_text, .inl (cI, 56, .inl o_text_v)), (o_readBar, .inl (cI, 16, .inl o_readBar_v)), (o_readPlayer, .inl (cI, 24, .inl (upd (upd o_readPlayer_v (Int32.toNatClampNeg (4 * o_readPlayers)) r9.1) (Int32.toNatClampNeg ((4 * o_readPlayers) + 1)) r11.1)))]) [0, 1] [2, 3] [2, 3, 0, 1] rfl rfl rfl (by decide) rfl rfl (fun H locs hP hD hS => ?_)
      obtain ⟨t14, et14, ht14a, ht14b⟩ := mFig enl et12 (by omega) er13
      refine va_iast hx hb hK hP hD hS 3 0 rfl rfl (n := 24) (f := (upd (upd o_readPlayer_v (Int32.toNatClampNeg (4 * o_readPlayers)) r9.1) (Int32.toNatClampNeg ((4 * o_readPlayers) + 1)) r11.1)) (hg_in (n := ((4 * ra) + 2)) (N := 24) (nx_add (nx_mul (show (4 : Int32) = nI 4 from rfl) era) (show (2 : Int32) = nI 2 from rfl)) (by omega) (by decide)) dX5_readPart_73 (fun H locs hP hD hS => ?_)
      have hP : va_P (dC, dI) vwCl [(o_h, .inr (5, [.int o_players, .int o_bars, .ref o_price, .ref o_breath, .ref o_kind, .ref o_looks, .ref o_noise, .ref o_repeat, .ref o_now, .ref o_readPlayer, .ref o_readBar, .int o_readPlayers, .int o_readBars, .ref o_text, .int o_length, .int r13.2.1, .int r13.2.2, .int o_acts, .int o_next, .ref o_row, .int o_heard, .ref o_heardOf, .ref o_heardBars, .ref o_heardPlays, .int o_hushWho, .int o_hushSum, .long o_seed, .ref o_isKept, .ref o_kept])), (o_text, .inl (cI, 56, .inl o_text_v)), (o_readBar, .inl (cI, 16, .inl o_readBar_v)), (o_readPlayer, .inl (cI, 24, .inl (upd (upd (upd o_readPlayer_v (Int32.toNatClampNeg (4 * o_readPlayers)) r9.1) (Int32.toNatClampNeg ((4 * o_readPlayers) + 1)) r11.1) (Int32.toNatClampNeg ((4 * o_readPlayers) + 2)) r13.1)))] H := hP
      have hD : va_D A [(o_h, .inr (5, [.int o_players, .int o_bars, .ref o_price, .ref o_breath, .ref o_kind, .ref o_looks, .ref o_noise, .ref o_repeat, .ref o_now, .ref o_readPlayer, .ref o_readBar, .int o_readPlayers, .int o_readBars, .ref o_text, .int o_length, .int r13.2.1, .int r13.2.2, .int o_acts, .int o_next, .ref o_row, .int o_heard, .ref o_heardOf, .ref o_heardBars, .ref o_heardPlays, .int o_hushWho, .int o_hushSum, .long o_seed, .ref o_isKept, .ref o_kept])), (o_text, .inl (cI, 56, .inl o_text_v)), (o_readBar, .inl (cI, 16, .inl o_readBar_v)), (o_readPlayer, .inl (cI, 24, .inl (upd (upd (upd o_readPlayer_v (Int32.toNatClampNeg (4 * o_readPlayers)) r9.1) (Int32.toNatClampNeg ((4 * o_readPlayers) + 1)) r11.1) (Int32.toNatClampNeg ((4 * o_readPlayers) + 2)) r13.1)))] := hD
      refine lv_aload_n hx hb dX5_readPart_74 rfl (lv_at hl 1 rfl) ?_
      refine va_get (D := (dC, dI)) (ci := 5) (v := .ref o_readPlayer) (C := RX5) (T := TX5) (N := 29) hx hb hts hinX5 hown hK hP 0 rfl rfl 9 (by decide) w3 (fun _ h9 => h9) rfl dX5_readPart_75 ?_
      refine lv_iload_n hx hb dX5_readPart_78 rfl (lv_at hl 0 rfl) ?_
      refine lv_iconst (v := 3) hx hb dX5_readPart_79 (by decide) ?_
      refine lv_iadd hx hb dX5_readPart_80 ?_
      refine lv_aload_n hx hb dX5_readPart_81 rfl (lv_at hl 1 rfl) ?_
      refine lv_iconst (v := 0) hx hb dX5_readPart_82 (by decide) ?_
      refine lv_iconst (v := 5) hx hb dX5_readPart_83 (by decide) ?_
      obtain ⟨r15, er15, hu⟩ := lxb_o hu
      refine hg_ci (va_runV (As := [.int 0, .int 5]) (rest := [.int ((4 * o_readPlayers) + 3), .ref o_readPlayer]) ⟨hx, hb, hml, hown, hts⟩ (c_X5_figureOf l dC dI cI cZ cM _ o_h 0 5 o_players o_bars o_price o_breath o_kind o_looks o_noise o_repeat o_now o_readPlayer o_readBar o_readPlayers o_readBars o_text o_length r13.2.1 r13.2.2 o_acts o_next o_row o_heard o_heardOf o_heardBars o_heardPlays o_hushWho o_hushSum o_seed o_isKept o_kept o_text_v np enp (by omega) nb enb (by omega) t14 et14 (by omega) nl enl (by omega) r15 er15) (cwV 2 hts gX5_readPart_X5_figureOf rfl rfl rfl (by decide +kernel) ⟨Nat.le_of_ble_eq_true rfl, Nat.le_of_ble_eq_true rfl⟩) (hgPreV (C := RX5) (T := TX5) (N := 29) (ci := 5) (q0 := 0) hP hD hK hN [0, 1] rfl rfl rfl rfl) rfl rfl hl.1 rfl (lv_room (Nat.le_of_ble_eq_true rfl)) dX5_readPart_84 ⟨Nat.zero_le _, Nat.zero_le _⟩) hP hD hS hA (wr := [(o_readBar, .inl (cI, 16, .inl o_readBar_v)), (o_readPlayer, .inl (cI, 24, .inl (upd (upd (upd o_readPlayer_v (Int32.toNatClampNeg (4 * o_readPlayers)) r9.1) (Int32.toNatClampNeg ((4 * o_readPlayers) + 1)) r11.1) (Int32.toNatClampNeg ((4 * o_readPlayers) + 2)) r13.1)))]) (wf := [(o_h, .inr (5, [.int o_players, .int o_bars, .ref o_price, .ref o_breath, .ref o_kind, .ref o_looks, .ref o_noise, .ref o_repeat, .ref o_now, .ref o_readPlayer, .ref o_readBar, .int o_readPlayers, .int o_readBars, .ref o_text, .int o_length, .int r15.2.1, .int r15.2.2, .int o_acts, .int o_next, .ref o_row, .int o_heard, .ref o_heardOf, .ref o_heardBars, .ref o_heardPlays, .int o_hushWho, .int o_hushSum, .long o_seed, .ref o_isKept, .ref o_kept])), (o_text, .inl (cI, 56, .inl o_text_v)), (o_readBar, .inl (cI, 16, .inl o_readBar_v)), (o_readPlayer, .inl (cI, 24, .inl (upd (upd (upd o_readPlayer_v (Int32.toNatClampNeg (4 * o_readPlayers)) r9.1) (Int32.toNatClampNeg ((4 * o_readPlayers) + 1)) r11.1) (Int32.toNatClampNeg ((4 * o_readPlayers) + 2)) r13.1)))]) [0, 1] [2, 3] [2, 3, 0, 1] rfl rfl rfl (by decide) rfl rfl (fun H locs hP hD hS => ?_)
      obtain ⟨t16, et16, ht16a, ht16b⟩ := mFig enl et14 (by omega) er15
      refine va_iast hx hb hK hP hD hS 3 0 rfl rfl (n := 24) (f := (upd (upd (upd o_readPlayer_v (Int32.toNatClampNeg (4 * o_readPlayers)) r9.1) (Int32.toNatClampNeg ((4 * o_readPlayers) + 1)) r11.1) (Int32.toNatClampNeg ((4 * o_readPlayers) + 2)) r13.1)) (hg_in (n := ((4 * ra) + 3)) (N := 24) (nx_add (nx_mul (show (4 : Int32) = nI 4 from rfl) era) (show (3 : Int32) = nI 3 from rfl)) (by omega) (by decide)) dX5_readPart_87 (fun H locs hP hD hS => ?_)
      have hP : va_P (dC, dI) vwCl [(o_h, .inr (5, [.int o_players, .int o_bars, .ref o_price, .ref o_breath, .ref o_kind, .ref o_looks, .ref o_noise, .ref o_repeat, .ref o_now, .ref o_readPlayer, .ref o_readBar, .int o_readPlayers, .int o_readBars, .ref o_text, .int o_length, .int r15.2.1, .int r15.2.2, .int o_acts, .int o_next, .ref o_row, .int o_heard, .ref o_heardOf, .ref o_heardBars, .ref o_heardPlays, .int o_hushWho, .int o_hushSum, .long o_seed, .ref o_isKept, .ref o_kept])), (o_text, .inl (cI, 56, .inl o_text_v)), (o_readBar, .inl (cI, 16, .inl o_readBar_v)), (o_readPlayer, .inl (cI, 24, .inl (upd (upd (upd (upd o_readPlayer_v (Int32.toNatClampNeg (4 * o_readPlayers)) r9.1) (Int32.toNatClampNeg ((4 * o_readPlayers) + 1)) r11.1) (Int32.toNatClampNeg ((4 * o_readPlayers) + 2)) r13.1) (Int32.toNatClampNeg ((4 * o_readPlayers) + 3)) r15.1)))] H := hP
      have hD : va_D A [(o_h, .inr (5, [.int o_players, .int o_bars, .ref o_price, .ref o_breath, .ref o_kind, .ref o_looks, .ref o_noise, .ref o_repeat, .ref o_now, .ref o_readPlayer, .ref o_readBar, .int o_readPlayers, .int o_readBars, .ref o_text, .int o_length, .int r15.2.1, .int r15.2.2, .int o_acts, .int o_next, .ref o_row, .int o_heard, .ref o_heardOf, .ref o_heardBars, .ref o_heardPlays, .int o_hushWho, .int o_hushSum, .long o_seed, .ref o_isKept, .ref o_kept])), (o_text, .inl (cI, 56, .inl o_text_v)), (o_readBar, .inl (cI, 16, .inl o_readBar_v)), (o_readPlayer, .inl (cI, 24, .inl (upd (upd (upd (upd o_readPlayer_v (Int32.toNatClampNeg (4 * o_readPlayers)) r9.1) (Int32.toNatClampNeg ((4 * o_readPlayers) + 1)) r11.1) (Int32.toNatClampNeg ((4 * o_readPlayers) + 2)) r13.1) (Int32.toNatClampNeg ((4 * o_readPlayers) + 3)) r15.1)))] := hD
      refine lv_aload_n hx hb dX5_readPart_88 rfl (lv_at hl 1 rfl) ?_
      refine lv_dup hx hb dX5_readPart_89 rfl ?_
      refine va_get (D := (dC, dI)) (ci := 5) (v := .int o_readPlayers) (C := RX5) (T := TX5) (N := 29) hx hb hts hinX5 hown hK hP 0 rfl rfl 11 (by decide) w1 (fun _ h9 => h9) rfl dX5_readPart_90 ?_
      refine lv_iconst (v := 1) hx hb dX5_readPart_93 (by decide) ?_
      refine lv_iadd hx hb dX5_readPart_94 ?_
      refine va_put (D := (dC, dI)) (ci := 5) (v := .int (o_readPlayers + 1)) (ty := .int) (C := RX5) (T := TX5) (N := 29) hx hb hts hinX5 tyX5 tyX5_ok nmX5 hown hK hP hD hS 0 rfl rfl 11 (by decide) w1 (fun _ h9 => h9) rfl (by decide +kernel) rfl rfl (Nat.le_of_ble_eq_true rfl) dX5_readPart_95 (fun H locs hP hD hS => ?_)
      have hP : va_P (dC, dI) vwCl [(o_h, .inr (5, [.int o_players, .int o_bars, .ref o_price, .ref o_breath, .ref o_kind, .ref o_looks, .ref o_noise, .ref o_repeat, .ref o_now, .ref o_readPlayer, .ref o_readBar, .int (o_readPlayers + 1), .int o_readBars, .ref o_text, .int o_length, .int r15.2.1, .int r15.2.2, .int o_acts, .int o_next, .ref o_row, .int o_heard, .ref o_heardOf, .ref o_heardBars, .ref o_heardPlays, .int o_hushWho, .int o_hushSum, .long o_seed, .ref o_isKept, .ref o_kept])), (o_text, .inl (cI, 56, .inl o_text_v)), (o_readBar, .inl (cI, 16, .inl o_readBar_v)), (o_readPlayer, .inl (cI, 24, .inl (upd (upd (upd (upd o_readPlayer_v (Int32.toNatClampNeg (4 * o_readPlayers)) r9.1) (Int32.toNatClampNeg ((4 * o_readPlayers) + 1)) r11.1) (Int32.toNatClampNeg ((4 * o_readPlayers) + 2)) r13.1) (Int32.toNatClampNeg ((4 * o_readPlayers) + 3)) r15.1)))] H := hP
      have hD : va_D A [(o_h, .inr (5, [.int o_players, .int o_bars, .ref o_price, .ref o_breath, .ref o_kind, .ref o_looks, .ref o_noise, .ref o_repeat, .ref o_now, .ref o_readPlayer, .ref o_readBar, .int (o_readPlayers + 1), .int o_readBars, .ref o_text, .int o_length, .int r15.2.1, .int r15.2.2, .int o_acts, .int o_next, .ref o_row, .int o_heard, .ref o_heardOf, .ref o_heardBars, .ref o_heardPlays, .int o_hushWho, .int o_hushSum, .long o_seed, .ref o_isKept, .ref o_kept])), (o_text, .inl (cI, 56, .inl o_text_v)), (o_readBar, .inl (cI, 16, .inl o_readBar_v)), (o_readPlayer, .inl (cI, 24, .inl (upd (upd (upd (upd o_readPlayer_v (Int32.toNatClampNeg (4 * o_readPlayers)) r9.1) (Int32.toNatClampNeg ((4 * o_readPlayers) + 1)) r11.1) (Int32.toNatClampNeg ((4 * o_readPlayers) + 2)) r13.1) (Int32.toNatClampNeg ((4 * o_readPlayers) + 3)) r15.1)))] := hD
      refine lv_goto (tgt := 185) hx hb dX5_readPart_98 (by decide) ?_
      subst hu
      exact hg_rvE hx hb hr hlk ⟨t16, (ra + 1), rb, et16, by omega, (nx_add era (show (1 : Int32) = nI 1 from rfl)), by omega, erb, by omega, (fun _ => by omega)⟩ hP hD hS dX5_readPart_185

set_option maxHeartbeats 4000000 in
set_option maxRecDepth 100000 in
theorem c_X5_readText (l : Launch) (dC : Nat → ClassId) (dI : Nat → Nat → Nat) (cI cZ cM : ClassId) (sz : Nat) (o_h : Nat) (o_players : Int32) (o_bars : Int32) (o_price : Nat) (o_breath : Nat) (o_kind : Nat) (o_looks : Nat) (o_noise : Nat) (o_repeat : Nat) (o_now : Nat) (o_readPlayer : Nat) (o_readBar : Nat) (o_readPlayers : Int32) (o_readBars : Int32) (o_text : Nat) (o_length : Int32) (o_at : Int32) (o_faultAt : Int32) (o_acts : Int32) (o_next : Int32) (o_row : Nat) (o_heard : Int32) (o_heardOf : Nat) (o_heardBars : Nat) (o_heardPlays : Nat) (o_hushWho : Int32) (o_hushSum : Int32) (o_seed : Int64) (o_isKept : Nat) (o_kept : Nat) (o_text_v : Nat → Int32) (o_readBar_v : Nat → Int32) (o_readPlayer_v : Nat → Int32) (np : Nat) (enp : o_players = nI np) (hnp : np ≤ 6) (nb : Nat) (enb : o_bars = nI nb) (hnb : nb ≤ 8) (nl : Nat) (enl : o_length = nI nl) (hnl : nl ≤ 56) (u : Int32 × Int32 × Int32 × Int32 × Int32 × (Nat → Int32) × (Nat → Int32)) (hu : u = f_X5_readText o_length o_text_v o_readBar_v o_readPlayer_v) : Met l yX5_readText wsX5_readText { frames := 3, cells := 0, slots := 0, locals := 71 } (hgPc [.ref o_h] (dC, dI) cI cZ cM [(o_h, .inr (5, [.int o_players, .int o_bars, .ref o_price, .ref o_breath, .ref o_kind, .ref o_looks, .ref o_noise, .ref o_repeat, .ref o_now, .ref o_readPlayer, .ref o_readBar, .int o_readPlayers, .int o_readBars, .ref o_text, .int o_length, .int o_at, .int o_faultAt, .int o_acts, .int o_next, .ref o_row, .int o_heard, .ref o_heardOf, .ref o_heardBars, .ref o_heardPlays, .int o_hushWho, .int o_hushSum, .long o_seed, .ref o_isKept, .ref o_kept])), (o_text, .inl (cI, 56, .inl o_text_v)), (o_readBar, .inl (cI, 16, .inl o_readBar_v)), (o_readPlayer, .inl (cI, 24, .inl o_readPlayer_v))] sz) (hgQiE (dC, dI) u.1 [(o_h, .inr (5, [.int o_players, .int o_bars, .ref o_price, .ref o_breath, .ref o_kind, .ref o_looks, .ref o_noise, .ref o_repeat, .ref o_now, .ref o_readPlayer, .ref o_readBar, .int u.2.1, .int u.2.2.1, .ref o_text, .int o_length, .int u.2.2.2.1, .int u.2.2.2.2.1, .int o_acts, .int o_next, .ref o_row, .int o_heard, .ref o_heardOf, .ref o_heardBars, .ref o_heardPlays, .int o_hushWho, .int o_hushSum, .long o_seed, .ref o_isKept, .ref o_kept])), (o_text, .inl (cI, 56, .inl o_text_v)), (o_readBar, .inl (cI, 16, .inl u.2.2.2.2.2.1)), (o_readPlayer, .inl (cI, 24, .inl u.2.2.2.2.2.2))] (∃ a b, u.2.1 = nI a ∧ a ≤ 6 ∧ u.2.2.1 = nI b ∧ b ≤ 8) (va_A [(o_h, .inr (5, [.int o_players, .int o_bars, .ref o_price, .ref o_breath, .ref o_kind, .ref o_looks, .ref o_noise, .ref o_repeat, .ref o_now, .ref o_readPlayer, .ref o_readBar, .int o_readPlayers, .int o_readBars, .ref o_text, .int o_length, .int o_at, .int o_faultAt, .int o_acts, .int o_next, .ref o_row, .int o_heard, .ref o_heardOf, .ref o_heardBars, .ref o_heardPlays, .int o_hushWho, .int o_hushSum, .long o_seed, .ref o_isKept, .ref o_kept])), (o_text, .inl (cI, 56, .inl o_text_v)), (o_readBar, .inl (cI, 16, .inl o_readBar_v)), (o_readPlayer, .inl (cI, 24, .inl o_readPlayer_v))] sz)) 0 0 (va_A [(o_h, .inr (5, [.int o_players, .int o_bars, .ref o_price, .ref o_breath, .ref o_kind, .ref o_looks, .ref o_noise, .ref o_repeat, .ref o_now, .ref o_readPlayer, .ref o_readBar, .int o_readPlayers, .int o_readBars, .ref o_text, .int o_length, .int o_at, .int o_faultAt, .int o_acts, .int o_next, .ref o_row, .int o_heard, .ref o_heardOf, .ref o_heardBars, .ref o_heardPlays, .int o_hushWho, .int o_hushSum, .long o_seed, .ref o_isKept, .ref o_kept])), (o_text, .inl (cI, 56, .inl o_text_v)), (o_readBar, .inl (cI, 16, .inl o_readBar_v)), (o_readPlayer, .inl (cI, 24, .inl o_readPlayer_v))] sz) := by
  refine hg_ofW (cc := cX5_readText) (maxL := 1) (ret := (some .int)) (own := RX5) (fun A => hgQiE (dC, dI) u.1 [(o_h, .inr (5, [.int o_players, .int o_bars, .ref o_price, .ref o_breath, .ref o_kind, .ref o_looks, .ref o_noise, .ref o_repeat, .ref o_now, .ref o_readPlayer, .ref o_readBar, .int u.2.1, .int u.2.2.1, .ref o_text, .int o_length, .int u.2.2.2.1, .int u.2.2.2.2.1, .int o_acts, .int o_next, .ref o_row, .int o_heard, .ref o_heardOf, .ref o_heardBars, .ref o_heardPlays, .int o_hushWho, .int o_hushSum, .long o_seed, .ref o_isKept, .ref o_kept])), (o_text, .inl (cI, 56, .inl o_text_v)), (o_readBar, .inl (cI, 16, .inl u.2.2.2.2.2.1)), (o_readPlayer, .inl (cI, 24, .inl u.2.2.2.2.2.2))] (∃ a b, u.2.1 = nI a ∧ a ≤ 6 ∧ u.2.2.1 = nI b ∧ b ≤ 8) A) rfl (by decide) rfl (Nat.le_of_ble_eq_true rfl) ?_
  intro p e s m below meth c ls A hsz hx hb hr hml hown hts hlk hnm hK hN hA hP hD hS hl
  subst hsz
  have w1 := hts (.fieldLink RX5 72 "HatGoesRoundModel" "at" "I") (List.mem_of_getElem? (i := 1) rfl)
  have hinX5 : ∀ w ∈ u_ws RX5 TX5 29, w ∈ wsX5_readText := fun _ h => List.mem_cons_of_mem _ (List.mem_append_right _ h)
  have w2 := hts (.fieldLink RX5 69 "HatGoesRoundModel" "faultAt" "I") (List.mem_of_getElem? (i := 2) rfl)
  have w3 := hts (.fieldLink RX5 75 "HatGoesRoundModel" "readPlayers" "I") (List.mem_of_getElem? (i := 3) rfl)
  have w4 := hts (.fieldLink RX5 78 "HatGoesRoundModel" "readBars" "I") (List.mem_of_getElem? (i := 4) rfl)
  have w5 := hts (.fieldLink RX5 65 "HatGoesRoundModel" "length" "I") (List.mem_of_getElem? (i := 5) rfl)
  have w6 := hts (.fieldLink RX5 37 "HatGoesRoundModel" "text" "[I") (List.mem_of_getElem? (i := 6) rfl)
  have hl : lv_has ls 1 [(0, .ref o_h)] := hl
  unfold f_X5_readText at hu
  refine lv_aload_n hx hb dX5_readText_0 rfl (lv_at hl 0 rfl) ?_
  refine lv_iconst (v := 0) hx hb dX5_readText_1 (by decide) ?_
  refine va_put (D := (dC, dI)) (ci := 5) (v := .int 0) (ty := .int) (C := RX5) (T := TX5) (N := 29) hx hb hts hinX5 tyX5 tyX5_ok nmX5 hown hK hP hD hS 0 rfl rfl 15 (by decide) w1 (fun _ h9 => h9) rfl (by decide +kernel) rfl rfl (Nat.le_of_ble_eq_true rfl) dX5_readText_2 (fun H locs hP hD hS => ?_)
  have hP : va_P (dC, dI) vwCl [(o_h, .inr (5, [.int o_players, .int o_bars, .ref o_price, .ref o_breath, .ref o_kind, .ref o_looks, .ref o_noise, .ref o_repeat, .ref o_now, .ref o_readPlayer, .ref o_readBar, .int o_readPlayers, .int o_readBars, .ref o_text, .int o_length, .int 0, .int o_faultAt, .int o_acts, .int o_next, .ref o_row, .int o_heard, .ref o_heardOf, .ref o_heardBars, .ref o_heardPlays, .int o_hushWho, .int o_hushSum, .long o_seed, .ref o_isKept, .ref o_kept])), (o_text, .inl (cI, 56, .inl o_text_v)), (o_readBar, .inl (cI, 16, .inl o_readBar_v)), (o_readPlayer, .inl (cI, 24, .inl o_readPlayer_v))] H := hP
  have hD : va_D A [(o_h, .inr (5, [.int o_players, .int o_bars, .ref o_price, .ref o_breath, .ref o_kind, .ref o_looks, .ref o_noise, .ref o_repeat, .ref o_now, .ref o_readPlayer, .ref o_readBar, .int o_readPlayers, .int o_readBars, .ref o_text, .int o_length, .int 0, .int o_faultAt, .int o_acts, .int o_next, .ref o_row, .int o_heard, .ref o_heardOf, .ref o_heardBars, .ref o_heardPlays, .int o_hushWho, .int o_hushSum, .long o_seed, .ref o_isKept, .ref o_kept])), (o_text, .inl (cI, 56, .inl o_text_v)), (o_readBar, .inl (cI, 16, .inl o_readBar_v)), (o_readPlayer, .inl (cI, 24, .inl o_readPlayer_v))] := hD
  refine lv_aload_n hx hb dX5_readText_5 rfl (lv_at hl 0 rfl) ?_
  refine lv_bipush (v := (-9)) hx hb dX5_readText_6 (by decide) ?_
  refine va_put (D := (dC, dI)) (ci := 5) (v := .int (-9)) (ty := .int) (C := RX5) (T := TX5) (N := 29) hx hb hts hinX5 tyX5 tyX5_ok nmX5 hown hK hP hD hS 0 rfl rfl 16 (by decide) w2 (fun _ h9 => h9) rfl (by decide +kernel) rfl rfl (Nat.le_of_ble_eq_true rfl) dX5_readText_8 (fun H locs hP hD hS => ?_)
  have hP : va_P (dC, dI) vwCl [(o_h, .inr (5, [.int o_players, .int o_bars, .ref o_price, .ref o_breath, .ref o_kind, .ref o_looks, .ref o_noise, .ref o_repeat, .ref o_now, .ref o_readPlayer, .ref o_readBar, .int o_readPlayers, .int o_readBars, .ref o_text, .int o_length, .int 0, .int (-9), .int o_acts, .int o_next, .ref o_row, .int o_heard, .ref o_heardOf, .ref o_heardBars, .ref o_heardPlays, .int o_hushWho, .int o_hushSum, .long o_seed, .ref o_isKept, .ref o_kept])), (o_text, .inl (cI, 56, .inl o_text_v)), (o_readBar, .inl (cI, 16, .inl o_readBar_v)), (o_readPlayer, .inl (cI, 24, .inl o_readPlayer_v))] H := hP
  have hD : va_D A [(o_h, .inr (5, [.int o_players, .int o_bars, .ref o_price, .ref o_breath, .ref o_kind, .ref o_looks, .ref o_noise, .ref o_repeat, .ref o_now, .ref o_readPlayer, .ref o_readBar, .int o_readPlayers, .int o_readBars, .ref o_text, .int o_length, .int 0, .int (-9), .int o_acts, .int o_next, .ref o_row, .int o_heard, .ref o_heardOf, .ref o_heardBars, .ref o_heardPlays, .int o_hushWho, .int o_hushSum, .long o_seed, .ref o_isKept, .ref o_kept])), (o_text, .inl (cI, 56, .inl o_text_v)), (o_readBar, .inl (cI, 16, .inl o_readBar_v)), (o_readPlayer, .inl (cI, 24, .inl o_readPlayer_v))] := hD
  refine lv_aload_n hx hb dX5_readText_11 rfl (lv_at hl 0 rfl) ?_
  refine lv_iconst (v := 0) hx hb dX5_readText_12 (by decide) ?_
  refine va_put (D := (dC, dI)) (ci := 5) (v := .int 0) (ty := .int) (C := RX5) (T := TX5) (N := 29) hx hb hts hinX5 tyX5 tyX5_ok nmX5 hown hK hP hD hS 0 rfl rfl 11 (by decide) w3 (fun _ h9 => h9) rfl (by decide +kernel) rfl rfl (Nat.le_of_ble_eq_true rfl) dX5_readText_13 (fun H locs hP hD hS => ?_)
  have hP : va_P (dC, dI) vwCl [(o_h, .inr (5, [.int o_players, .int o_bars, .ref o_price, .ref o_breath, .ref o_kind, .ref o_looks, .ref o_noise, .ref o_repeat, .ref o_now, .ref o_readPlayer, .ref o_readBar, .int 0, .int o_readBars, .ref o_text, .int o_length, .int 0, .int (-9), .int o_acts, .int o_next, .ref o_row, .int o_heard, .ref o_heardOf, .ref o_heardBars, .ref o_heardPlays, .int o_hushWho, .int o_hushSum, .long o_seed, .ref o_isKept, .ref o_kept])), (o_text, .inl (cI, 56, .inl o_text_v)), (o_readBar, .inl (cI, 16, .inl o_readBar_v)), (o_readPlayer, .inl (cI, 24, .inl o_readPlayer_v))] H := hP
  have hD : va_D A [(o_h, .inr (5, [.int o_players, .int o_bars, .ref o_price, .ref o_breath, .ref o_kind, .ref o_looks, .ref o_noise, .ref o_repeat, .ref o_now, .ref o_readPlayer, .ref o_readBar, .int 0, .int o_readBars, .ref o_text, .int o_length, .int 0, .int (-9), .int o_acts, .int o_next, .ref o_row, .int o_heard, .ref o_heardOf, .ref o_heardBars, .ref o_heardPlays, .int o_hushWho, .int o_hushSum, .long o_seed, .ref o_isKept, .ref o_kept])), (o_text, .inl (cI, 56, .inl o_text_v)), (o_readBar, .inl (cI, 16, .inl o_readBar_v)), (o_readPlayer, .inl (cI, 24, .inl o_readPlayer_v))] := hD
  refine lv_aload_n hx hb dX5_readText_16 rfl (lv_at hl 0 rfl) ?_
  refine lv_iconst (v := 0) hx hb dX5_readText_17 (by decide) ?_
  refine va_put (D := (dC, dI)) (ci := 5) (v := .int 0) (ty := .int) (C := RX5) (T := TX5) (N := 29) hx hb hts hinX5 tyX5 tyX5_ok nmX5 hown hK hP hD hS 0 rfl rfl 12 (by decide) w4 (fun _ h9 => h9) rfl (by decide +kernel) rfl rfl (Nat.le_of_ble_eq_true rfl) dX5_readText_18 (fun H locs hP hD hS => ?_)
  have hP : va_P (dC, dI) vwCl [(o_h, .inr (5, [.int o_players, .int o_bars, .ref o_price, .ref o_breath, .ref o_kind, .ref o_looks, .ref o_noise, .ref o_repeat, .ref o_now, .ref o_readPlayer, .ref o_readBar, .int 0, .int 0, .ref o_text, .int o_length, .int 0, .int (-9), .int o_acts, .int o_next, .ref o_row, .int o_heard, .ref o_heardOf, .ref o_heardBars, .ref o_heardPlays, .int o_hushWho, .int o_hushSum, .long o_seed, .ref o_isKept, .ref o_kept])), (o_text, .inl (cI, 56, .inl o_text_v)), (o_readBar, .inl (cI, 16, .inl o_readBar_v)), (o_readPlayer, .inl (cI, 24, .inl o_readPlayer_v))] H := hP
  have hD : va_D A [(o_h, .inr (5, [.int o_players, .int o_bars, .ref o_price, .ref o_breath, .ref o_kind, .ref o_looks, .ref o_noise, .ref o_repeat, .ref o_now, .ref o_readPlayer, .ref o_readBar, .int 0, .int 0, .ref o_text, .int o_length, .int 0, .int (-9), .int o_acts, .int o_next, .ref o_row, .int o_heard, .ref o_heardOf, .ref o_heardBars, .ref o_heardPlays, .int o_hushWho, .int o_hushSum, .long o_seed, .ref o_isKept, .ref o_kept])), (o_text, .inl (cI, 56, .inl o_text_v)), (o_readBar, .inl (cI, 16, .inl o_readBar_v)), (o_readPlayer, .inl (cI, 24, .inl o_readPlayer_v))] := hD
  refine lv_aload_n hx hb dX5_readText_21 rfl (lv_at hl 0 rfl) ?_
  refine va_get (D := (dC, dI)) (ci := 5) (v := .int o_length) (C := RX5) (T := TX5) (N := 29) hx hb hts hinX5 hown hK hP 0 rfl rfl 14 (by decide) w5 (fun _ h9 => h9) rfl dX5_readText_22 ?_
  refine lv_if_eq (tgt := 39) hx hb dX5_readText_25 (by decide) (fun c_25 => ?_) (fun c_25 => ?_)
  · have hu := hu.trans (if_pos c_25)
    refine lv_iconst (v := 0) hx hb dX5_readText_39 (by decide) ?_
    subst hu
    exact hg_riE hx hb hr hlk rfl ⟨0, 0, (show (0 : Int32) = nI 0 from rfl), by omega, (show (0 : Int32) = nI 0 from rfl), by omega⟩ hP hD hS dX5_readText_40
  · have hu := hu.trans (if_neg c_25)
    have hnl0 : 0 < nl := Nat.pos_of_ne_zero (fun q => c_25 (by rw [enl, q]; rfl))
    refine lv_aload_n hx hb dX5_readText_28 rfl (lv_at hl 0 rfl) ?_
    refine va_get (D := (dC, dI)) (ci := 5) (v := .ref o_text) (C := RX5) (T := TX5) (N := 29) hx hb hts hinX5 hown hK hP 0 rfl rfl 13 (by decide) w6 (fun _ h9 => h9) rfl dX5_readText_29 ?_
    refine lv_iconst (v := 0) hx hb dX5_readText_32 (by decide) ?_
    refine va_iald hx hb hK hP 1 0 rfl rfl (n := 56) (f := o_text_v) (hg_in (n := 0) (N := 56) (show (0 : Int32) = nI 0 from rfl) (by omega) (by decide)) dX5_readText_33 ?_
    refine lv_bipush (v := 79) hx hb dX5_readText_34 (by decide) ?_
    refine lv_icmp_eq (tgt := 41) hx hb dX5_readText_36 (by decide) (fun c_36 => ?_) (fun c_36 => ?_)
    · have hu := hu.trans (if_pos c_36)
      refine lv_aload_n hx hb dX5_readText_41 rfl (lv_at hl 0 rfl) ?_
      refine lv_iconst (v := 1) hx hb dX5_readText_42 (by decide) ?_
      refine va_put (D := (dC, dI)) (ci := 5) (v := .int 1) (ty := .int) (C := RX5) (T := TX5) (N := 29) hx hb hts hinX5 tyX5 tyX5_ok nmX5 hown hK hP hD hS 0 rfl rfl 15 (by decide) w1 (fun _ h9 => h9) rfl (by decide +kernel) rfl rfl (Nat.le_of_ble_eq_true rfl) dX5_readText_43 (fun H locs hP hD hS => ?_)
      have hP : va_P (dC, dI) vwCl [(o_h, .inr (5, [.int o_players, .int o_bars, .ref o_price, .ref o_breath, .ref o_kind, .ref o_looks, .ref o_noise, .ref o_repeat, .ref o_now, .ref o_readPlayer, .ref o_readBar, .int 0, .int 0, .ref o_text, .int o_length, .int 1, .int (-9), .int o_acts, .int o_next, .ref o_row, .int o_heard, .ref o_heardOf, .ref o_heardBars, .ref o_heardPlays, .int o_hushWho, .int o_hushSum, .long o_seed, .ref o_isKept, .ref o_kept])), (o_text, .inl (cI, 56, .inl o_text_v)), (o_readBar, .inl (cI, 16, .inl o_readBar_v)), (o_readPlayer, .inl (cI, 24, .inl o_readPlayer_v))] H := hP
      have hD : va_D A [(o_h, .inr (5, [.int o_players, .int o_bars, .ref o_price, .ref o_breath, .ref o_kind, .ref o_looks, .ref o_noise, .ref o_repeat, .ref o_now, .ref o_readPlayer, .ref o_readBar, .int 0, .int 0, .ref o_text, .int o_length, .int 1, .int (-9), .int o_acts, .int o_next, .ref o_row, .int o_heard, .ref o_heardOf, .ref o_heardBars, .ref o_heardPlays, .int o_hushWho, .int o_hushSum, .long o_seed, .ref o_isKept, .ref o_kept])), (o_text, .inl (cI, 56, .inl o_text_v)), (o_readBar, .inl (cI, 16, .inl o_readBar_v)), (o_readPlayer, .inl (cI, 24, .inl o_readPlayer_v))] := hD
      refine hg_loopMJ (T := Int32 × Int32 × Int32 × Int32 × (Nat → Int32) × (Nat → Int32)) (N := 60) (fun v46 => (∃ t a b, v46.2.2.1 = nI t ∧ t ≤ nl ∧ v46.1 = nI a ∧ a ≤ 6 ∧ v46.2.1 = nI b ∧ b ≤ 8)) (fun v46 => (if v46.2.2.2.1 = (-9) then nl + 1 - (Int32.toInt v46.2.2.1).toNat else 0)) (fun v46 => [(o_h, .inr (5, [.int o_players, .int o_bars, .ref o_price, .ref o_breath, .ref o_kind, .ref o_looks, .ref o_noise, .ref o_repeat, .ref o_now, .ref o_readPlayer, .ref o_readBar, .int v46.1, .int v46.2.1, .ref o_text, .int o_length, .int v46.2.2.1, .int v46.2.2.2.1, .int o_acts, .int o_next, .ref o_row, .int o_heard, .ref o_heardOf, .ref o_heardBars, .ref o_heardPlays, .int o_hushWho, .int o_hushSum, .long o_seed, .ref o_isKept, .ref o_kept])), (o_text, .inl (cI, 56, .inl o_text_v)), (o_readBar, .inl (cI, 16, .inl v46.2.2.2.2.1)), (o_readPlayer, .inl (cI, 24, .inl v46.2.2.2.2.2))]) (fun _ v46 => [(0, .ref o_h)]) (fun n46 v46 => l_X5_readText_46 o_length o_text_v n46 v46) (0, 0, 1, (-9), o_readBar_v, o_readPlayer_v) ⟨1, 0, 0, rfl, by omega, rfl, by omega, rfl, by omega⟩ (mMu0 hnl) hu ?_ hP hD hS (lv_sub hl [0] rfl)
      · intro n46 v46 hJ46 hm hu ih H locs ls hP hD hS hl
        rw [l_X5_readText_46] at hu
        have hP : va_P (dC, dI) vwCl [(o_h, .inr (5, [.int o_players, .int o_bars, .ref o_price, .ref o_breath, .ref o_kind, .ref o_looks, .ref o_noise, .ref o_repeat, .ref o_now, .ref o_readPlayer, .ref o_readBar, .int v46.1, .int v46.2.1, .ref o_text, .int o_length, .int v46.2.2.1, .int v46.2.2.2.1, .int o_acts, .int o_next, .ref o_row, .int o_heard, .ref o_heardOf, .ref o_heardBars, .ref o_heardPlays, .int o_hushWho, .int o_hushSum, .long o_seed, .ref o_isKept, .ref o_kept])), (o_text, .inl (cI, 56, .inl o_text_v)), (o_readBar, .inl (cI, 16, .inl v46.2.2.2.2.1)), (o_readPlayer, .inl (cI, 24, .inl v46.2.2.2.2.2))] H := hP
        have hD : va_D A [(o_h, .inr (5, [.int o_players, .int o_bars, .ref o_price, .ref o_breath, .ref o_kind, .ref o_looks, .ref o_noise, .ref o_repeat, .ref o_now, .ref o_readPlayer, .ref o_readBar, .int v46.1, .int v46.2.1, .ref o_text, .int o_length, .int v46.2.2.1, .int v46.2.2.2.1, .int o_acts, .int o_next, .ref o_row, .int o_heard, .ref o_heardOf, .ref o_heardBars, .ref o_heardPlays, .int o_hushWho, .int o_hushSum, .long o_seed, .ref o_isKept, .ref o_kept])), (o_text, .inl (cI, 56, .inl o_text_v)), (o_readBar, .inl (cI, 16, .inl v46.2.2.2.2.1)), (o_readPlayer, .inl (cI, 24, .inl v46.2.2.2.2.2))] := hD
        have hl : lv_has ls 1 [(0, .ref o_h)] := hl
        obtain ⟨ta, ra, rb, eta, hta, era, hra, erb, hrb⟩ := hJ46
        refine lv_aload_n hx hb dX5_readText_46 rfl (lv_at hl 0 rfl) ?_
        refine va_get (D := (dC, dI)) (ci := 5) (v := .int v46.2.2.2.1) (C := RX5) (T := TX5) (N := 29) hx hb hts hinX5 hown hK hP 0 rfl rfl 16 (by decide) w2 (fun _ h9 => h9) rfl dX5_readText_47 ?_
        refine lv_bipush (v := (-9)) hx hb dX5_readText_50 (by decide) ?_
        refine lv_icmp_ne (tgt := 82) hx hb dX5_readText_52 (by decide) (fun c_52 => ?_) (fun c_52 => ?_)
        · have hu := hu.trans (if_neg c_52)
          refine lv_aload_n hx hb dX5_readText_82 rfl (lv_at hl 0 rfl) ?_
          refine va_get (D := (dC, dI)) (ci := 5) (v := .int v46.2.2.2.1) (C := RX5) (T := TX5) (N := 29) hx hb hts hinX5 hown hK hP 0 rfl rfl 16 (by decide) w2 (fun _ h9 => h9) rfl dX5_readText_83 ?_
          subst hu
          exact hg_riE hx hb hr hlk rfl ⟨ra, rb, era, by omega, erb, by omega⟩ hP hD hS dX5_readText_86
        · have hu := hu.trans (if_pos c_52)
          refine lv_aload_n hx hb dX5_readText_55 rfl (lv_at hl 0 rfl) ?_
          refine va_get (D := (dC, dI)) (ci := 5) (v := .int v46.2.2.1) (C := RX5) (T := TX5) (N := 29) hx hb hts hinX5 hown hK hP 0 rfl rfl 15 (by decide) w1 (fun _ h9 => h9) rfl dX5_readText_56 ?_
          refine lv_aload_n hx hb dX5_readText_59 rfl (lv_at hl 0 rfl) ?_
          refine va_get (D := (dC, dI)) (ci := 5) (v := .int o_length) (C := RX5) (T := TX5) (N := 29) hx hb hts hinX5 hown hK hP 0 rfl rfl 14 (by decide) w5 (fun _ h9 => h9) rfl dX5_readText_60 ?_
          refine lv_icmp_ge (tgt := 82) hx hb dX5_readText_63 (by decide) (fun c_63 => ?_) (fun c_63 => ?_)
          · have hu := hu.trans (if_pos c_63)
            refine lv_aload_n hx hb dX5_readText_82 rfl (lv_at hl 0 rfl) ?_
            refine va_get (D := (dC, dI)) (ci := 5) (v := .int v46.2.2.2.1) (C := RX5) (T := TX5) (N := 29) hx hb hts hinX5 hown hK hP 0 rfl rfl 16 (by decide) w2 (fun _ h9 => h9) rfl dX5_readText_83 ?_
            subst hu
            exact hg_riE hx hb hr hlk rfl ⟨ra, rb, era, by omega, erb, by omega⟩ hP hD hS dX5_readText_86
          · have hu := hu.trans (if_neg c_63)
            have hal : ta < nl := hg_nltN eta enl (by omega) (by omega) c_63
            refine lv_aload_n hx hb dX5_readText_66 rfl (lv_at hl 0 rfl) ?_
            refine lv_aload_n hx hb dX5_readText_67 rfl (lv_at hl 0 rfl) ?_
            refine va_get (D := (dC, dI)) (ci := 5) (v := .ref o_text) (C := RX5) (T := TX5) (N := 29) hx hb hts hinX5 hown hK hP 0 rfl rfl 13 (by decide) w6 (fun _ h9 => h9) rfl dX5_readText_68 ?_
            refine lv_aload_n hx hb dX5_readText_71 rfl (lv_at hl 0 rfl) ?_
            refine va_get (D := (dC, dI)) (ci := 5) (v := .int v46.2.2.1) (C := RX5) (T := TX5) (N := 29) hx hb hts hinX5 hown hK hP 0 rfl rfl 15 (by decide) w1 (fun _ h9 => h9) rfl dX5_readText_72 ?_
            refine va_iald hx hb hK hP 1 0 rfl rfl (n := 56) (f := o_text_v) (hg_in (n := ta) (N := 56) eta (by omega) (by decide)) dX5_readText_75 ?_
            obtain ⟨r1, er1, hu⟩ := lxb_o hu
            refine hg_cvE (va_runV (As := [.int (o_text_v (Int32.toNatClampNeg v46.2.2.1))]) (rest := []) ⟨hx, hb, hml, hown, hts⟩ (c_X5_readPart l dC dI cI cZ cM _ o_h (o_text_v (Int32.toNatClampNeg v46.2.2.1)) o_players o_bars o_price o_breath o_kind o_looks o_noise o_repeat o_now o_readPlayer o_readBar v46.1 v46.2.1 o_text o_length v46.2.2.1 v46.2.2.2.1 o_acts o_next o_row o_heard o_heardOf o_heardBars o_heardPlays o_hushWho o_hushSum o_seed o_isKept o_kept o_text_v v46.2.2.2.2.1 v46.2.2.2.2.2 np enp (by omega) nb enb (by omega) nl enl (by omega) ta eta (by omega) ra era (by omega) rb erb (by omega) r1 er1) (cwV 1 hts gX5_readText_X5_readPart rfl rfl rfl (by decide +kernel) ⟨Nat.le_of_ble_eq_true rfl, Nat.le_of_ble_eq_true rfl⟩) (hgPreV (C := RX5) (T := TX5) (N := 29) (ci := 5) (q0 := 0) hP hD hK hN [0, 1, 2, 3] rfl rfl rfl rfl) rfl rfl hl.1 rfl (lv_room (Nat.le_of_ble_eq_true rfl)) dX5_readText_76 ⟨Nat.zero_le _, Nat.zero_le _⟩) hP hD hS hA (wr := []) (wf := [(o_h, .inr (5, [.int o_players, .int o_bars, .ref o_price, .ref o_breath, .ref o_kind, .ref o_looks, .ref o_noise, .ref o_repeat, .ref o_now, .ref o_readPlayer, .ref o_readBar, .int r1.1, .int r1.2.1, .ref o_text, .int o_length, .int r1.2.2.1, .int r1.2.2.2.1, .int o_acts, .int o_next, .ref o_row, .int o_heard, .ref o_heardOf, .ref o_heardBars, .ref o_heardPlays, .int o_hushWho, .int o_hushSum, .long o_seed, .ref o_isKept, .ref o_kept])), (o_text, .inl (cI, 56, .inl o_text_v)), (o_readBar, .inl (cI, 16, .inl r1.2.2.2.2.1)), (o_readPlayer, .inl (cI, 24, .inl r1.2.2.2.2.2))]) [0, 1, 2, 3] [] [0, 1, 2, 3] rfl rfl rfl (by decide) rfl rfl (fun hB2 H locs hP hD hS => ?_)
            obtain ⟨t9, a9, b9, et9, ht9, ea9, ha9, eb9, hb9, hf9⟩ := hB2
            refine lv_goto (tgt := 46) hx hb dX5_readText_79 (by decide) ?_
            exact ih _ ⟨t9, a9, b9, et9, ht9, ea9, ha9, eb9, hb9⟩ (mLessT eta hal hnl et9 ht9 c_52 hf9 hm) hu _ _ _ hP hD hS (lv_sub hl [0] rfl)
    · have hu := hu.trans (if_neg c_36)
      refine lv_iconst (v := 0) hx hb dX5_readText_39 (by decide) ?_
      subst hu
      exact hg_riE hx hb hr hlk rfl ⟨0, 0, (show (0 : Int32) = nI 0 from rfl), by omega, (show (0 : Int32) = nI 0 from rfl), by omega⟩ hP hD hS dX5_readText_40

set_option maxHeartbeats 4000000 in
set_option maxRecDepth 100000 in
theorem c_X5_fault (l : Launch) (dC : Nat → ClassId) (dI : Nat → Nat → Nat) (cI cZ cM : ClassId) (sz : Nat) (o_h : Nat) (o_players : Int32) (o_bars : Int32) (o_price : Nat) (o_breath : Nat) (o_kind : Nat) (o_looks : Nat) (o_noise : Nat) (o_repeat : Nat) (o_now : Nat) (o_readPlayer : Nat) (o_readBar : Nat) (o_readPlayers : Int32) (o_readBars : Int32) (o_text : Nat) (o_length : Int32) (o_at : Int32) (o_faultAt : Int32) (o_acts : Int32) (o_next : Int32) (o_row : Nat) (o_heard : Int32) (o_heardOf : Nat) (o_heardBars : Nat) (o_heardPlays : Nat) (o_hushWho : Int32) (o_hushSum : Int32) (o_seed : Int64) (o_isKept : Nat) (o_kept : Nat) (o_text_v : Nat → Int32) (o_readBar_v : Nat → Int32) (o_readPlayer_v : Nat → Int32) (np : Nat) (enp : o_players = nI np) (hnp : np ≤ 6) (nb : Nat) (enb : o_bars = nI nb) (hnb : nb ≤ 8) (nl : Nat) (enl : o_length = nI nl) (hnl : nl ≤ 56) (u : Int32 × Int32 × Int32 × Int32 × Int32 × (Nat → Int32) × (Nat → Int32)) (hu : u = f_X5_fault o_length o_text_v o_readBar_v o_readPlayer_v) : Met l yX5_fault wsX5_fault { frames := 4, cells := 0, slots := 0, locals := 91 } (hgPc [.ref o_h] (dC, dI) cI cZ cM [(o_h, .inr (5, [.int o_players, .int o_bars, .ref o_price, .ref o_breath, .ref o_kind, .ref o_looks, .ref o_noise, .ref o_repeat, .ref o_now, .ref o_readPlayer, .ref o_readBar, .int o_readPlayers, .int o_readBars, .ref o_text, .int o_length, .int o_at, .int o_faultAt, .int o_acts, .int o_next, .ref o_row, .int o_heard, .ref o_heardOf, .ref o_heardBars, .ref o_heardPlays, .int o_hushWho, .int o_hushSum, .long o_seed, .ref o_isKept, .ref o_kept])), (o_text, .inl (cI, 56, .inl o_text_v)), (o_readBar, .inl (cI, 16, .inl o_readBar_v)), (o_readPlayer, .inl (cI, 24, .inl o_readPlayer_v))] sz) (hgQi (dC, dI) u.1 [(o_h, .inr (5, [.int o_players, .int o_bars, .ref o_price, .ref o_breath, .ref o_kind, .ref o_looks, .ref o_noise, .ref o_repeat, .ref o_now, .ref o_readPlayer, .ref o_readBar, .int u.2.1, .int u.2.2.1, .ref o_text, .int o_length, .int u.2.2.2.1, .int u.2.2.2.2.1, .int o_acts, .int o_next, .ref o_row, .int o_heard, .ref o_heardOf, .ref o_heardBars, .ref o_heardPlays, .int o_hushWho, .int o_hushSum, .long o_seed, .ref o_isKept, .ref o_kept])), (o_text, .inl (cI, 56, .inl o_text_v)), (o_readBar, .inl (cI, 16, .inl u.2.2.2.2.2.1)), (o_readPlayer, .inl (cI, 24, .inl u.2.2.2.2.2.2))] (va_A [(o_h, .inr (5, [.int o_players, .int o_bars, .ref o_price, .ref o_breath, .ref o_kind, .ref o_looks, .ref o_noise, .ref o_repeat, .ref o_now, .ref o_readPlayer, .ref o_readBar, .int o_readPlayers, .int o_readBars, .ref o_text, .int o_length, .int o_at, .int o_faultAt, .int o_acts, .int o_next, .ref o_row, .int o_heard, .ref o_heardOf, .ref o_heardBars, .ref o_heardPlays, .int o_hushWho, .int o_hushSum, .long o_seed, .ref o_isKept, .ref o_kept])), (o_text, .inl (cI, 56, .inl o_text_v)), (o_readBar, .inl (cI, 16, .inl o_readBar_v)), (o_readPlayer, .inl (cI, 24, .inl o_readPlayer_v))] sz)) 0 0 (va_A [(o_h, .inr (5, [.int o_players, .int o_bars, .ref o_price, .ref o_breath, .ref o_kind, .ref o_looks, .ref o_noise, .ref o_repeat, .ref o_now, .ref o_readPlayer, .ref o_readBar, .int o_readPlayers, .int o_readBars, .ref o_text, .int o_length, .int o_at, .int o_faultAt, .int o_acts, .int o_next, .ref o_row, .int o_heard, .ref o_heardOf, .ref o_heardBars, .ref o_heardPlays, .int o_hushWho, .int o_hushSum, .long o_seed, .ref o_isKept, .ref o_kept])), (o_text, .inl (cI, 56, .inl o_text_v)), (o_readBar, .inl (cI, 16, .inl o_readBar_v)), (o_readPlayer, .inl (cI, 24, .inl o_readPlayer_v))] sz) := by
  refine hg_ofW (cc := cX5_fault) (maxL := 1) (ret := (some .int)) (own := RX5) (fun A => hgQi (dC, dI) u.1 [(o_h, .inr (5, [.int o_players, .int o_bars, .ref o_price, .ref o_breath, .ref o_kind, .ref o_looks, .ref o_noise, .ref o_repeat, .ref o_now, .ref o_readPlayer, .ref o_readBar, .int u.2.1, .int u.2.2.1, .ref o_text, .int o_length, .int u.2.2.2.1, .int u.2.2.2.2.1, .int o_acts, .int o_next, .ref o_row, .int o_heard, .ref o_heardOf, .ref o_heardBars, .ref o_heardPlays, .int o_hushWho, .int o_hushSum, .long o_seed, .ref o_isKept, .ref o_kept])), (o_text, .inl (cI, 56, .inl o_text_v)), (o_readBar, .inl (cI, 16, .inl u.2.2.2.2.2.1)), (o_readPlayer, .inl (cI, 24, .inl u.2.2.2.2.2.2))] A) rfl (by decide) rfl (Nat.le_of_ble_eq_true rfl) ?_
  intro p e s m below meth c ls A hsz hx hb hr hml hown hts hlk hnm hK hN hA hP hD hS hl
  subst hsz
  have hl : lv_has ls 1 [(0, .ref o_h)] := hl
  unfold f_X5_fault at hu
  refine lv_aload_n hx hb dX5_fault_0 rfl (lv_at hl 0 rfl) ?_
  obtain ⟨r1, er1, hu⟩ := lxb_o hu
  refine hg_ciE (va_runV (As := []) (rest := []) ⟨hx, hb, hml, hown, hts⟩ (c_X5_readText l dC dI cI cZ cM _ o_h o_players o_bars o_price o_breath o_kind o_looks o_noise o_repeat o_now o_readPlayer o_readBar o_readPlayers o_readBars o_text o_length o_at o_faultAt o_acts o_next o_row o_heard o_heardOf o_heardBars o_heardPlays o_hushWho o_hushSum o_seed o_isKept o_kept o_text_v o_readBar_v o_readPlayer_v np enp (by omega) nb enb (by omega) nl enl (by omega) r1 er1) (cwV 0 hts gX5_fault_X5_readText rfl rfl rfl (by decide +kernel) ⟨Nat.le_of_ble_eq_true rfl, Nat.le_of_ble_eq_true rfl⟩) (hgPreV (C := RX5) (T := TX5) (N := 29) (ci := 5) (q0 := 0) hP hD hK hN [0, 1, 2, 3] rfl rfl rfl rfl) rfl rfl hl.1 rfl (lv_room (Nat.le_of_ble_eq_true rfl)) dX5_fault_1 ⟨Nat.zero_le _, Nat.zero_le _⟩) hP hD hS hA (wr := []) (wf := [(o_h, .inr (5, [.int o_players, .int o_bars, .ref o_price, .ref o_breath, .ref o_kind, .ref o_looks, .ref o_noise, .ref o_repeat, .ref o_now, .ref o_readPlayer, .ref o_readBar, .int r1.2.1, .int r1.2.2.1, .ref o_text, .int o_length, .int r1.2.2.2.1, .int r1.2.2.2.2.1, .int o_acts, .int o_next, .ref o_row, .int o_heard, .ref o_heardOf, .ref o_heardBars, .ref o_heardPlays, .int o_hushWho, .int o_hushSum, .long o_seed, .ref o_isKept, .ref o_kept])), (o_text, .inl (cI, 56, .inl o_text_v)), (o_readBar, .inl (cI, 16, .inl r1.2.2.2.2.2.1)), (o_readPlayer, .inl (cI, 24, .inl r1.2.2.2.2.2.2))]) [0, 1, 2, 3] [] [0, 1, 2, 3] rfl rfl rfl (by decide) rfl rfl (fun hB2 H locs hP hD hS => ?_)
  subst hu
  exact hg_ri hx hb hr hlk rfl hP hD hS dX5_fault_4

set_option maxHeartbeats 4000000 in
set_option maxRecDepth 100000 in
theorem c_X5_isPlayer (l : Launch) (dC : Nat → ClassId) (dI : Nat → Nat → Nat) (cI cZ cM : ClassId) (sz : Nat) (o_h : Nat) (x0 : Int32) (o_players : Int32) (o_bars : Int32) (o_price : Nat) (o_breath : Nat) (o_kind : Nat) (o_looks : Nat) (o_noise : Nat) (o_repeat : Nat) (o_now : Nat) (o_readPlayer : Nat) (o_readBar : Nat) (o_readPlayers : Int32) (o_readBars : Int32) (o_text : Nat) (o_length : Int32) (o_at : Int32) (o_faultAt : Int32) (o_acts : Int32) (o_next : Int32) (o_row : Nat) (o_heard : Int32) (o_heardOf : Nat) (o_heardBars : Nat) (o_heardPlays : Nat) (o_hushWho : Int32) (o_hushSum : Int32) (o_seed : Int64) (o_isKept : Nat) (o_kept : Nat) (np : Nat) (enp : o_players = nI np) (hnp : np ≤ 6) (nb : Nat) (enb : o_bars = nI nb) (hnb : nb ≤ 8) (u : Int32) (hu : u = f_X5_isPlayer x0 o_players) : Met l yX5_isPlayer wsX5_isPlayer { frames := 1, cells := 0, slots := 0, locals := 25 } (hgPc [.ref o_h, .int x0] (dC, dI) cI cZ cM [(o_h, .inr (5, [.int o_players, .int o_bars, .ref o_price, .ref o_breath, .ref o_kind, .ref o_looks, .ref o_noise, .ref o_repeat, .ref o_now, .ref o_readPlayer, .ref o_readBar, .int o_readPlayers, .int o_readBars, .ref o_text, .int o_length, .int o_at, .int o_faultAt, .int o_acts, .int o_next, .ref o_row, .int o_heard, .ref o_heardOf, .ref o_heardBars, .ref o_heardPlays, .int o_hushWho, .int o_hushSum, .long o_seed, .ref o_isKept, .ref o_kept]))] sz) (hgQi (dC, dI) u [(o_h, .inr (5, [.int o_players, .int o_bars, .ref o_price, .ref o_breath, .ref o_kind, .ref o_looks, .ref o_noise, .ref o_repeat, .ref o_now, .ref o_readPlayer, .ref o_readBar, .int o_readPlayers, .int o_readBars, .ref o_text, .int o_length, .int o_at, .int o_faultAt, .int o_acts, .int o_next, .ref o_row, .int o_heard, .ref o_heardOf, .ref o_heardBars, .ref o_heardPlays, .int o_hushWho, .int o_hushSum, .long o_seed, .ref o_isKept, .ref o_kept]))] (va_A [(o_h, .inr (5, [.int o_players, .int o_bars, .ref o_price, .ref o_breath, .ref o_kind, .ref o_looks, .ref o_noise, .ref o_repeat, .ref o_now, .ref o_readPlayer, .ref o_readBar, .int o_readPlayers, .int o_readBars, .ref o_text, .int o_length, .int o_at, .int o_faultAt, .int o_acts, .int o_next, .ref o_row, .int o_heard, .ref o_heardOf, .ref o_heardBars, .ref o_heardPlays, .int o_hushWho, .int o_hushSum, .long o_seed, .ref o_isKept, .ref o_kept]))] sz)) 0 0 (va_A [(o_h, .inr (5, [.int o_players, .int o_bars, .ref o_price, .ref o_breath, .ref o_kind, .ref o_looks, .ref o_noise, .ref o_repeat, .ref o_now, .ref o_readPlayer, .ref o_readBar, .int o_readPlayers, .int o_readBars, .ref o_text, .int o_length, .int o_at, .int o_faultAt, .int o_acts, .int o_next, .ref o_row, .int o_heard, .ref o_heardOf, .ref o_heardBars, .ref o_heardPlays, .int o_hushWho, .int o_hushSum, .long o_seed, .ref o_isKept, .ref o_kept]))] sz) := by
  refine hg_ofW (cc := cX5_isPlayer) (maxL := 2) (ret := (some .boolean)) (own := RX5) (fun A => hgQi (dC, dI) u [(o_h, .inr (5, [.int o_players, .int o_bars, .ref o_price, .ref o_breath, .ref o_kind, .ref o_looks, .ref o_noise, .ref o_repeat, .ref o_now, .ref o_readPlayer, .ref o_readBar, .int o_readPlayers, .int o_readBars, .ref o_text, .int o_length, .int o_at, .int o_faultAt, .int o_acts, .int o_next, .ref o_row, .int o_heard, .ref o_heardOf, .ref o_heardBars, .ref o_heardPlays, .int o_hushWho, .int o_hushSum, .long o_seed, .ref o_isKept, .ref o_kept]))] A) rfl (by decide) rfl (Nat.le_of_ble_eq_true rfl) ?_
  intro p e s m below meth c ls A hsz hx hb hr hml hown hts hlk hnm hK hN hA hP hD hS hl
  subst hsz
  have w1 := hts (.fieldLink RX5 93 "HatGoesRoundModel" "players" "I") (List.mem_of_getElem? (i := 1) rfl)
  have hinX5 : ∀ w ∈ u_ws RX5 TX5 29, w ∈ wsX5_isPlayer := fun _ h => List.mem_cons_of_mem _ (List.mem_append_right _ h)
  have hl : lv_has ls 2 [(0, .ref o_h), (1, .int x0)] := hl
  unfold f_X5_isPlayer at hu
  refine lv_iload_n hx hb dX5_isPlayer_0 rfl (lv_at hl 1 rfl) ?_
  refine lv_i2l (v := (Int32.toInt64 x0)) hx hb dX5_isPlayer_1 rfl ?_
  refine lv_lconst (v := 0) hx hb dX5_isPlayer_2 (by decide) ?_
  refine lv_aload_n hx hb dX5_isPlayer_3 rfl (lv_at hl 0 rfl) ?_
  refine va_get (D := (dC, dI)) (ci := 5) (v := .int o_players) (C := RX5) (T := TX5) (N := 29) hx hb hts hinX5 hown hK hP 0 rfl rfl 0 (by decide) w1 (fun _ h9 => h9) rfl dX5_isPlayer_4 ?_
  refine lv_iconst (v := 1) hx hb dX5_isPlayer_7 (by decide) ?_
  refine lv_isub hx hb dX5_isPlayer_8 ?_
  refine lv_i2l (v := (Int32.toInt64 (o_players - 1))) hx hb dX5_isPlayer_9 rfl ?_
  obtain ⟨r1, er1, hu⟩ := lxb_o hu
  refine hg_ci (va_runS (As := [.long (Int32.toInt64 x0), .long 0, .long (Int32.toInt64 (o_players - 1))]) (rest := []) ⟨hx, hb, hml, hown, hts⟩ (c_X5_in l dC dI cI cZ cM _ (Int32.toInt64 x0) 0 (Int32.toInt64 (o_players - 1)) r1 er1) (va_cwS 3 hts gX5_isPlayer_X5_in rfl rfl rfl (by decide +kernel) ⟨Nat.le_of_ble_eq_true rfl, Nat.le_of_ble_eq_true rfl⟩) (hgPreS hP hD hK hN [] rfl rfl) rfl rfl hl.1 rfl (lv_room (Nat.le_of_ble_eq_true rfl)) dX5_isPlayer_10 ⟨Nat.zero_le _, Nat.zero_le _⟩) hP hD hS hA (wr := [(o_h, .inr (5, [.int o_players, .int o_bars, .ref o_price, .ref o_breath, .ref o_kind, .ref o_looks, .ref o_noise, .ref o_repeat, .ref o_now, .ref o_readPlayer, .ref o_readBar, .int o_readPlayers, .int o_readBars, .ref o_text, .int o_length, .int o_at, .int o_faultAt, .int o_acts, .int o_next, .ref o_row, .int o_heard, .ref o_heardOf, .ref o_heardBars, .ref o_heardPlays, .int o_hushWho, .int o_hushSum, .long o_seed, .ref o_isKept, .ref o_kept]))]) (wf := [(o_h, .inr (5, [.int o_players, .int o_bars, .ref o_price, .ref o_breath, .ref o_kind, .ref o_looks, .ref o_noise, .ref o_repeat, .ref o_now, .ref o_readPlayer, .ref o_readBar, .int o_readPlayers, .int o_readBars, .ref o_text, .int o_length, .int o_at, .int o_faultAt, .int o_acts, .int o_next, .ref o_row, .int o_heard, .ref o_heardOf, .ref o_heardBars, .ref o_heardPlays, .int o_hushWho, .int o_hushSum, .long o_seed, .ref o_isKept, .ref o_kept]))]) [] [0] [0] rfl rfl rfl (by decide) rfl rfl (fun H locs hP hD hS => ?_)
  subst hu
  exact hg_rz hx hb hr hlk (z_X5_in er1) rfl hP hD hS dX5_isPlayer_13

set_option maxHeartbeats 4000000 in
set_option maxRecDepth 100000 in
theorem c_X5_whoIs (l : Launch) (dC : Nat → ClassId) (dI : Nat → Nat → Nat) (cI cZ cM : ClassId) (sz : Nat) (o_h : Nat) (x0 : Int32) (x1 : Int32) (o_players : Int32) (o_bars : Int32) (o_price : Nat) (o_breath : Nat) (o_kind : Nat) (o_looks : Nat) (o_noise : Nat) (o_repeat : Nat) (o_now : Nat) (o_readPlayer : Nat) (o_readBar : Nat) (o_readPlayers : Int32) (o_readBars : Int32) (o_text : Nat) (o_length : Int32) (o_at : Int32) (o_faultAt : Int32) (o_acts : Int32) (o_next : Int32) (o_row : Nat) (o_heard : Int32) (o_heardOf : Nat) (o_heardBars : Nat) (o_heardPlays : Nat) (o_hushWho : Int32) (o_hushSum : Int32) (o_seed : Int64) (o_isKept : Nat) (o_kept : Nat) (o_now_v : Nat → Int32) (np : Nat) (enp : o_players = nI np) (hnp : np ≤ 6) (nb : Nat) (enb : o_bars = nI nb) (hnb : nb ≤ 8) (lv : Nat) (elv : x0 = nI lv) (hlv : lv < 2) (u : Int32) (hu : u = f_X5_whoIs x0 x1 o_players o_now_v) : Met l yX5_whoIs wsX5_whoIs { frames := 0, cells := 0, slots := 0, locals := 0 } (hgPc [.ref o_h, .int x0, .int x1] (dC, dI) cI cZ cM [(o_h, .inr (5, [.int o_players, .int o_bars, .ref o_price, .ref o_breath, .ref o_kind, .ref o_looks, .ref o_noise, .ref o_repeat, .ref o_now, .ref o_readPlayer, .ref o_readBar, .int o_readPlayers, .int o_readBars, .ref o_text, .int o_length, .int o_at, .int o_faultAt, .int o_acts, .int o_next, .ref o_row, .int o_heard, .ref o_heardOf, .ref o_heardBars, .ref o_heardPlays, .int o_hushWho, .int o_hushSum, .long o_seed, .ref o_isKept, .ref o_kept])), (o_now, .inl (cI, 32, .inl o_now_v))] sz) (hgQi (dC, dI) u [(o_h, .inr (5, [.int o_players, .int o_bars, .ref o_price, .ref o_breath, .ref o_kind, .ref o_looks, .ref o_noise, .ref o_repeat, .ref o_now, .ref o_readPlayer, .ref o_readBar, .int o_readPlayers, .int o_readBars, .ref o_text, .int o_length, .int o_at, .int o_faultAt, .int o_acts, .int o_next, .ref o_row, .int o_heard, .ref o_heardOf, .ref o_heardBars, .ref o_heardPlays, .int o_hushWho, .int o_hushSum, .long o_seed, .ref o_isKept, .ref o_kept])), (o_now, .inl (cI, 32, .inl o_now_v))] (va_A [(o_h, .inr (5, [.int o_players, .int o_bars, .ref o_price, .ref o_breath, .ref o_kind, .ref o_looks, .ref o_noise, .ref o_repeat, .ref o_now, .ref o_readPlayer, .ref o_readBar, .int o_readPlayers, .int o_readBars, .ref o_text, .int o_length, .int o_at, .int o_faultAt, .int o_acts, .int o_next, .ref o_row, .int o_heard, .ref o_heardOf, .ref o_heardBars, .ref o_heardPlays, .int o_hushWho, .int o_hushSum, .long o_seed, .ref o_isKept, .ref o_kept])), (o_now, .inl (cI, 32, .inl o_now_v))] sz)) 0 0 (va_A [(o_h, .inr (5, [.int o_players, .int o_bars, .ref o_price, .ref o_breath, .ref o_kind, .ref o_looks, .ref o_noise, .ref o_repeat, .ref o_now, .ref o_readPlayer, .ref o_readBar, .int o_readPlayers, .int o_readBars, .ref o_text, .int o_length, .int o_at, .int o_faultAt, .int o_acts, .int o_next, .ref o_row, .int o_heard, .ref o_heardOf, .ref o_heardBars, .ref o_heardPlays, .int o_hushWho, .int o_hushSum, .long o_seed, .ref o_isKept, .ref o_kept])), (o_now, .inl (cI, 32, .inl o_now_v))] sz) := by
  refine hg_ofW (cc := cX5_whoIs) (maxL := 5) (ret := (some .int)) (own := RX5) (fun A => hgQi (dC, dI) u [(o_h, .inr (5, [.int o_players, .int o_bars, .ref o_price, .ref o_breath, .ref o_kind, .ref o_looks, .ref o_noise, .ref o_repeat, .ref o_now, .ref o_readPlayer, .ref o_readBar, .int o_readPlayers, .int o_readBars, .ref o_text, .int o_length, .int o_at, .int o_faultAt, .int o_acts, .int o_next, .ref o_row, .int o_heard, .ref o_heardOf, .ref o_heardBars, .ref o_heardPlays, .int o_hushWho, .int o_hushSum, .long o_seed, .ref o_isKept, .ref o_kept])), (o_now, .inl (cI, 32, .inl o_now_v))] A) rfl (by decide) rfl (Nat.le_of_ble_eq_true rfl) ?_
  intro p e s m below meth c ls A hsz hx hb hr hml hown hts hlk hnm hK hN hA hP hD hS hl
  subst hsz
  have w1 := hts (.fieldLink RX5 93 "HatGoesRoundModel" "players" "I") (List.mem_of_getElem? (i := 1) rfl)
  have hinX5 : ∀ w ∈ u_ws RX5 TX5 29, w ∈ wsX5_whoIs := fun _ h => List.mem_cons_of_mem _ (List.mem_append_right _ h)
  have w2 := hts (.fieldLink RX5 28 "HatGoesRoundModel" "now" "[I") (List.mem_of_getElem? (i := 2) rfl)
  have hl : lv_has ls 5 [(0, .ref o_h), (1, .int x0), (2, .int x1)] := hl
  unfold f_X5_whoIs at hu
  refine lv_iconst (v := 0) hx hb dX5_whoIs_0 (by decide) ?_
  refine lv_istore_n (lv' := [(3, .int 0), (0, .ref o_h), (1, .int x0), (2, .int x1)]) hx hb dX5_whoIs_1 rfl hl (by decide) rfl (fun ls hl => ?_)
  refine lv_iconst (v := 0) hx hb dX5_whoIs_2 (by decide) ?_
  refine lv_istore (lv' := [(4, .int 0), (3, .int 0), (0, .ref o_h), (1, .int x0), (2, .int x1)]) hx hb dX5_whoIs_3 hl (by decide) rfl (fun ls hl => ?_)
  obtain ⟨r2, er2, hu⟩ := lxb_o hu
  refine hg_loopF (T := Int32) (N := (itn 0 o_players)) (fun v5 => [(o_h, .inr (5, [.int o_players, .int o_bars, .ref o_price, .ref o_breath, .ref o_kind, .ref o_looks, .ref o_noise, .ref o_repeat, .ref o_now, .ref o_readPlayer, .ref o_readBar, .int o_readPlayers, .int o_readBars, .ref o_text, .int o_length, .int o_at, .int o_faultAt, .int o_acts, .int o_next, .ref o_row, .int o_heard, .ref o_heardOf, .ref o_heardBars, .ref o_heardPlays, .int o_hushWho, .int o_hushSum, .long o_seed, .ref o_isKept, .ref o_kept])), (o_now, .inl (cI, 32, .inl o_now_v))]) (fun k5 v5 => [(0, .ref o_h), (1, .int x0), (2, .int x1), (3, .int v5), (4, .int (nI k5))]) (fun k5 => l_X5_whoIs_5 x0 x1 o_now_v 0 k5) ?_ ?_ hP hD hS (lv_sub hl [2, 3, 4, 1, 0] rfl)
  · intro v5 hv H locs ls hP hD hS hl
    obtain rfl : r2 = v5 := er2.trans hv.symm
    have hP : va_P (dC, dI) vwCl [(o_h, .inr (5, [.int o_players, .int o_bars, .ref o_price, .ref o_breath, .ref o_kind, .ref o_looks, .ref o_noise, .ref o_repeat, .ref o_now, .ref o_readPlayer, .ref o_readBar, .int o_readPlayers, .int o_readBars, .ref o_text, .int o_length, .int o_at, .int o_faultAt, .int o_acts, .int o_next, .ref o_row, .int o_heard, .ref o_heardOf, .ref o_heardBars, .ref o_heardPlays, .int o_hushWho, .int o_hushSum, .long o_seed, .ref o_isKept, .ref o_kept])), (o_now, .inl (cI, 32, .inl o_now_v))] H := hP
    have hD : va_D A [(o_h, .inr (5, [.int o_players, .int o_bars, .ref o_price, .ref o_breath, .ref o_kind, .ref o_looks, .ref o_noise, .ref o_repeat, .ref o_now, .ref o_readPlayer, .ref o_readBar, .int o_readPlayers, .int o_readBars, .ref o_text, .int o_length, .int o_at, .int o_faultAt, .int o_acts, .int o_next, .ref o_row, .int o_heard, .ref o_heardOf, .ref o_heardBars, .ref o_heardPlays, .int o_hushWho, .int o_hushSum, .long o_seed, .ref o_isKept, .ref o_kept])), (o_now, .inl (cI, 32, .inl o_now_v))] := hD
    have hl : lv_has ls 5 [(0, .ref o_h), (1, .int x0), (2, .int x1), (3, .int r2), (4, .int (nI (itn 0 o_players)))] := hl
    refine lv_iload hx hb dX5_whoIs_5 (lv_at hl 4 rfl) ?_
    refine lv_aload_n hx hb dX5_whoIs_7 rfl (lv_at hl 0 rfl) ?_
    refine va_get (D := (dC, dI)) (ci := 5) (v := .int o_players) (C := RX5) (T := TX5) (N := 29) hx hb hts hinX5 hown hK hP 0 rfl rfl 0 (by decide) w1 (fun _ h9 => h9) rfl dX5_whoIs_8 ?_
    refine lv_icmp_ge (tgt := 47) hx hb dX5_whoIs_11 (by decide) (fun c_11 => ?_) (fun c_11 => absurd hg_lo0 c_11)
    refine lv_iload_n hx hb dX5_whoIs_47 rfl (lv_at hl 3 rfl) ?_
    subst hu
    exact hg_ri hx hb hr hlk rfl hP hD hS dX5_whoIs_48
  · intro k5 hk v5 hv w hw ih H locs ls hP hD hS hl
    have hw : w = b_X5_whoIs_5 x0 x1 o_now_v k5 v5 := by rw [hw, hv]; rfl
    unfold b_X5_whoIs_5 at hw
    have hkb : k5 + 0 < np := hg_itn0 enp (by omega) hk
    have hP : va_P (dC, dI) vwCl [(o_h, .inr (5, [.int o_players, .int o_bars, .ref o_price, .ref o_breath, .ref o_kind, .ref o_looks, .ref o_noise, .ref o_repeat, .ref o_now, .ref o_readPlayer, .ref o_readBar, .int o_readPlayers, .int o_readBars, .ref o_text, .int o_length, .int o_at, .int o_faultAt, .int o_acts, .int o_next, .ref o_row, .int o_heard, .ref o_heardOf, .ref o_heardBars, .ref o_heardPlays, .int o_hushWho, .int o_hushSum, .long o_seed, .ref o_isKept, .ref o_kept])), (o_now, .inl (cI, 32, .inl o_now_v))] H := hP
    have hD : va_D A [(o_h, .inr (5, [.int o_players, .int o_bars, .ref o_price, .ref o_breath, .ref o_kind, .ref o_looks, .ref o_noise, .ref o_repeat, .ref o_now, .ref o_readPlayer, .ref o_readBar, .int o_readPlayers, .int o_readBars, .ref o_text, .int o_length, .int o_at, .int o_faultAt, .int o_acts, .int o_next, .ref o_row, .int o_heard, .ref o_heardOf, .ref o_heardBars, .ref o_heardPlays, .int o_hushWho, .int o_hushSum, .long o_seed, .ref o_isKept, .ref o_kept])), (o_now, .inl (cI, 32, .inl o_now_v))] := hD
    have hl : lv_has ls 5 [(0, .ref o_h), (1, .int x0), (2, .int x1), (3, .int v5), (4, .int (nI k5))] := hl
    refine lv_iload hx hb dX5_whoIs_5 (lv_at hl 4 rfl) ?_
    refine lv_aload_n hx hb dX5_whoIs_7 rfl (lv_at hl 0 rfl) ?_
    refine va_get (D := (dC, dI)) (ci := 5) (v := .int o_players) (C := RX5) (T := TX5) (N := 29) hx hb hts hinX5 hown hK hP 0 rfl rfl 0 (by decide) w1 (fun _ h9 => h9) rfl dX5_whoIs_8 ?_
    refine lv_icmp_ge (tgt := 47) hx hb dX5_whoIs_11 (by decide) (fun c_11 => absurd c_11 (hg_lo1 hk)) (fun c_11 => ?_)
    refine lv_iload_n hx hb dX5_whoIs_14 rfl (lv_at hl 3 rfl) ?_
    refine lv_aload_n hx hb dX5_whoIs_15 rfl (lv_at hl 0 rfl) ?_
    refine va_get (D := (dC, dI)) (ci := 5) (v := .ref o_now) (C := RX5) (T := TX5) (N := 29) hx hb hts hinX5 hown hK hP 0 rfl rfl 8 (by decide) w2 (fun _ h9 => h9) rfl dX5_whoIs_16 ?_
    refine lv_bipush (v := 16) hx hb dX5_whoIs_19 (by decide) ?_
    refine lv_iload_n hx hb dX5_whoIs_21 rfl (lv_at hl 1 rfl) ?_
    refine lv_imul hx hb dX5_whoIs_22 ?_
    refine lv_iload hx hb dX5_whoIs_23 (lv_at hl 4 rfl) ?_
    refine lv_iadd hx hb dX5_whoIs_25 ?_
    refine va_iald hx hb hK hP 1 0 rfl rfl (n := 32) (f := o_now_v) (hg_in (n := ((16 * lv) + k5)) (N := 32) (nx_add (nx_mul (show (16 : Int32) = nI 16 from rfl) elv) rfl) (by omega) (by decide)) dX5_whoIs_26 ?_
    refine lv_iload_n hx hb dX5_whoIs_27 rfl (lv_at hl 2 rfl) ?_
    obtain ⟨z1, ez1, hw⟩ := lxb_o hw
    refine hg_cut (D := (dC, dI)) (A0 := A) (H0 := s.heap) (ws := [(o_h, .inr (5, [.int o_players, .int o_bars, .ref o_price, .ref o_breath, .ref o_kind, .ref o_looks, .ref o_noise, .ref o_repeat, .ref o_now, .ref o_readPlayer, .ref o_readBar, .int o_readPlayers, .int o_readBars, .ref o_text, .int o_length, .int o_at, .int o_faultAt, .int o_acts, .int o_next, .ref o_row, .int o_heard, .ref o_heardOf, .ref o_heardBars, .ref o_heardPlays, .int o_hushWho, .int o_hushSum, .long o_seed, .ref o_isKept, .ref o_kept])), (o_now, .inl (cI, 32, .inl o_now_v))]) (g := F0 m 39 ls [.int z1, .int v5]) ?_ (fun hJ => ?_)
    · intro H locs hP hD hS
      refine lv_ior hx hb dX5_whoIs_39 ?_
      refine lv_istore_n (lv' := [(3, .int (v5 ||| z1)), (0, .ref o_h), (1, .int x0), (2, .int x1), (4, .int (nI k5))]) hx hb dX5_whoIs_40 rfl hl (by decide) rfl (fun ls hl => ?_)
      refine lv_iinc (v := nI (k5 + 1)) (lv' := [(4, .int (nI (k5 + 1))), (3, .int (v5 ||| z1)), (0, .ref o_h), (1, .int x0), (2, .int x1)]) hx hb dX5_whoIs_41 hl (k := 4) rfl (nI_1 k5) (by decide) rfl (fun ls hl => ?_)
      refine lv_goto (tgt := 5) hx hb dX5_whoIs_44 (by decide) ?_
      subst hw
      exact ih _ _ _ hP hD hS (lv_sub hl [2, 3, 4, 1, 0] rfl)
    · refine lv_icmp_ne (tgt := 38) hx hb dX5_whoIs_28 (by decide) (fun c_28 => ?_) (fun c_28 => ?_)
      · have ez1 := ez1.trans (if_neg c_28)
        refine lv_iconst (v := 0) hx hb dX5_whoIs_38 (by decide) ?_
        subst ez1
        exact hJ _ _ hP hD hS
      · have ez1 := ez1.trans (if_pos c_28)
        refine lv_iconst (v := 1) hx hb dX5_whoIs_31 (by decide) ?_
        refine lv_iload hx hb dX5_whoIs_32 (lv_at hl 4 rfl) ?_
        refine lv_ishl hx hb dX5_whoIs_34 ?_
        refine lv_goto (tgt := 39) hx hb dX5_whoIs_35 (by decide) ?_
        subst ez1
        exact hJ _ _ hP hD hS

set_option maxHeartbeats 4000000 in
set_option maxRecDepth 100000 in
theorem c_X5_howMany (l : Launch) (dC : Nat → ClassId) (dI : Nat → Nat → Nat) (cI cZ cM : ClassId) (sz : Nat) (o_h : Nat) (x0 : Int32) (o_players : Int32) (o_bars : Int32) (o_price : Nat) (o_breath : Nat) (o_kind : Nat) (o_looks : Nat) (o_noise : Nat) (o_repeat : Nat) (o_now : Nat) (o_readPlayer : Nat) (o_readBar : Nat) (o_readPlayers : Int32) (o_readBars : Int32) (o_text : Nat) (o_length : Int32) (o_at : Int32) (o_faultAt : Int32) (o_acts : Int32) (o_next : Int32) (o_row : Nat) (o_heard : Int32) (o_heardOf : Nat) (o_heardBars : Nat) (o_heardPlays : Nat) (o_hushWho : Int32) (o_hushSum : Int32) (o_seed : Int64) (o_isKept : Nat) (o_kept : Nat) (o_now_v : Nat → Int32) (np : Nat) (enp : o_players = nI np) (hnp : np ≤ 6) (nb : Nat) (enb : o_bars = nI nb) (hnb : nb ≤ 8) (lv : Nat) (elv : x0 = nI lv) (hlv : lv < 2) (u : Int32) (hu : u = f_X5_howMany x0 o_players o_now_v) : Met l yX5_howMany wsX5_howMany { frames := 1, cells := 0, slots := 0, locals := 24 } (hgPc [.ref o_h, .int x0] (dC, dI) cI cZ cM [(o_h, .inr (5, [.int o_players, .int o_bars, .ref o_price, .ref o_breath, .ref o_kind, .ref o_looks, .ref o_noise, .ref o_repeat, .ref o_now, .ref o_readPlayer, .ref o_readBar, .int o_readPlayers, .int o_readBars, .ref o_text, .int o_length, .int o_at, .int o_faultAt, .int o_acts, .int o_next, .ref o_row, .int o_heard, .ref o_heardOf, .ref o_heardBars, .ref o_heardPlays, .int o_hushWho, .int o_hushSum, .long o_seed, .ref o_isKept, .ref o_kept])), (o_now, .inl (cI, 32, .inl o_now_v))] sz) (hgQi (dC, dI) u [(o_h, .inr (5, [.int o_players, .int o_bars, .ref o_price, .ref o_breath, .ref o_kind, .ref o_looks, .ref o_noise, .ref o_repeat, .ref o_now, .ref o_readPlayer, .ref o_readBar, .int o_readPlayers, .int o_readBars, .ref o_text, .int o_length, .int o_at, .int o_faultAt, .int o_acts, .int o_next, .ref o_row, .int o_heard, .ref o_heardOf, .ref o_heardBars, .ref o_heardPlays, .int o_hushWho, .int o_hushSum, .long o_seed, .ref o_isKept, .ref o_kept])), (o_now, .inl (cI, 32, .inl o_now_v))] (va_A [(o_h, .inr (5, [.int o_players, .int o_bars, .ref o_price, .ref o_breath, .ref o_kind, .ref o_looks, .ref o_noise, .ref o_repeat, .ref o_now, .ref o_readPlayer, .ref o_readBar, .int o_readPlayers, .int o_readBars, .ref o_text, .int o_length, .int o_at, .int o_faultAt, .int o_acts, .int o_next, .ref o_row, .int o_heard, .ref o_heardOf, .ref o_heardBars, .ref o_heardPlays, .int o_hushWho, .int o_hushSum, .long o_seed, .ref o_isKept, .ref o_kept])), (o_now, .inl (cI, 32, .inl o_now_v))] sz)) 0 0 (va_A [(o_h, .inr (5, [.int o_players, .int o_bars, .ref o_price, .ref o_breath, .ref o_kind, .ref o_looks, .ref o_noise, .ref o_repeat, .ref o_now, .ref o_readPlayer, .ref o_readBar, .int o_readPlayers, .int o_readBars, .ref o_text, .int o_length, .int o_at, .int o_faultAt, .int o_acts, .int o_next, .ref o_row, .int o_heard, .ref o_heardOf, .ref o_heardBars, .ref o_heardPlays, .int o_hushWho, .int o_hushSum, .long o_seed, .ref o_isKept, .ref o_kept])), (o_now, .inl (cI, 32, .inl o_now_v))] sz) := by
  refine hg_ofW (cc := cX5_howMany) (maxL := 2) (ret := (some .int)) (own := RX5) (fun A => hgQi (dC, dI) u [(o_h, .inr (5, [.int o_players, .int o_bars, .ref o_price, .ref o_breath, .ref o_kind, .ref o_looks, .ref o_noise, .ref o_repeat, .ref o_now, .ref o_readPlayer, .ref o_readBar, .int o_readPlayers, .int o_readBars, .ref o_text, .int o_length, .int o_at, .int o_faultAt, .int o_acts, .int o_next, .ref o_row, .int o_heard, .ref o_heardOf, .ref o_heardBars, .ref o_heardPlays, .int o_hushWho, .int o_hushSum, .long o_seed, .ref o_isKept, .ref o_kept])), (o_now, .inl (cI, 32, .inl o_now_v))] A) rfl (by decide) rfl (Nat.le_of_ble_eq_true rfl) ?_
  intro p e s m below meth c ls A hsz hx hb hr hml hown hts hlk hnm hK hN hA hP hD hS hl
  subst hsz
  have hl : lv_has ls 2 [(0, .ref o_h), (1, .int x0)] := hl
  unfold f_X5_howMany at hu
  refine lv_aload_n hx hb dX5_howMany_0 rfl (lv_at hl 0 rfl) ?_
  refine lv_iload_n hx hb dX5_howMany_1 rfl (lv_at hl 1 rfl) ?_
  refine lv_iconst (v := 0) hx hb dX5_howMany_2 (by decide) ?_
  obtain ⟨r1, er1, hu⟩ := lxb_o hu
  refine hg_ci (va_runV (As := [.int x0, .int 0]) (rest := []) ⟨hx, hb, hml, hown, hts⟩ (c_X5_whoIs l dC dI cI cZ cM _ o_h x0 0 o_players o_bars o_price o_breath o_kind o_looks o_noise o_repeat o_now o_readPlayer o_readBar o_readPlayers o_readBars o_text o_length o_at o_faultAt o_acts o_next o_row o_heard o_heardOf o_heardBars o_heardPlays o_hushWho o_hushSum o_seed o_isKept o_kept o_now_v np enp (by omega) nb enb (by omega) lv elv (by omega) r1 er1) (cwV 2 hts gX5_howMany_X5_whoIs rfl rfl rfl (by decide +kernel) ⟨Nat.le_of_ble_eq_true rfl, Nat.le_of_ble_eq_true rfl⟩) (hgPreV (C := RX5) (T := TX5) (N := 29) (ci := 5) (q0 := 0) hP hD hK hN [0, 1] rfl rfl rfl rfl) rfl rfl hl.1 rfl (lv_room (Nat.le_of_ble_eq_true rfl)) dX5_howMany_3 ⟨Nat.zero_le _, Nat.zero_le _⟩) hP hD hS hA (wr := []) (wf := [(o_h, .inr (5, [.int o_players, .int o_bars, .ref o_price, .ref o_breath, .ref o_kind, .ref o_looks, .ref o_noise, .ref o_repeat, .ref o_now, .ref o_readPlayer, .ref o_readBar, .int o_readPlayers, .int o_readBars, .ref o_text, .int o_length, .int o_at, .int o_faultAt, .int o_acts, .int o_next, .ref o_row, .int o_heard, .ref o_heardOf, .ref o_heardBars, .ref o_heardPlays, .int o_hushWho, .int o_hushSum, .long o_seed, .ref o_isKept, .ref o_kept])), (o_now, .inl (cI, 32, .inl o_now_v))]) [0, 1] [] [0, 1] rfl rfl rfl (by decide) rfl rfl (fun H locs hP hD hS => ?_)
  obtain ⟨r2, er2, hu⟩ := lxb_o hu
  refine hg_ci (va_runS (As := [.int r1]) (rest := []) ⟨hx, hb, hml, hown, hts⟩ (c_X5_ones l dC dI cI cZ cM _ r1 r2 er2) (va_cwS 1 hts gX5_howMany_X5_ones rfl rfl rfl (by decide +kernel) ⟨Nat.le_of_ble_eq_true rfl, Nat.le_of_ble_eq_true rfl⟩) (hgPreS hP hD hK hN [] rfl rfl) rfl rfl hl.1 rfl (lv_room (Nat.le_of_ble_eq_true rfl)) dX5_howMany_6 ⟨Nat.zero_le _, Nat.zero_le _⟩) hP hD hS hA (wr := [(o_h, .inr (5, [.int o_players, .int o_bars, .ref o_price, .ref o_breath, .ref o_kind, .ref o_looks, .ref o_noise, .ref o_repeat, .ref o_now, .ref o_readPlayer, .ref o_readBar, .int o_readPlayers, .int o_readBars, .ref o_text, .int o_length, .int o_at, .int o_faultAt, .int o_acts, .int o_next, .ref o_row, .int o_heard, .ref o_heardOf, .ref o_heardBars, .ref o_heardPlays, .int o_hushWho, .int o_hushSum, .long o_seed, .ref o_isKept, .ref o_kept])), (o_now, .inl (cI, 32, .inl o_now_v))]) (wf := [(o_h, .inr (5, [.int o_players, .int o_bars, .ref o_price, .ref o_breath, .ref o_kind, .ref o_looks, .ref o_noise, .ref o_repeat, .ref o_now, .ref o_readPlayer, .ref o_readBar, .int o_readPlayers, .int o_readBars, .ref o_text, .int o_length, .int o_at, .int o_faultAt, .int o_acts, .int o_next, .ref o_row, .int o_heard, .ref o_heardOf, .ref o_heardBars, .ref o_heardPlays, .int o_hushWho, .int o_hushSum, .long o_seed, .ref o_isKept, .ref o_kept])), (o_now, .inl (cI, 32, .inl o_now_v))]) [] [0, 1] [0, 1] rfl rfl rfl (by decide) rfl rfl (fun H locs hP hD hS => ?_)
  subst hu
  exact hg_ri hx hb hr hlk rfl hP hD hS dX5_howMany_9

set_option maxHeartbeats 4000000 in
set_option maxRecDepth 100000 in
theorem c_X5_isSilent (l : Launch) (dC : Nat → ClassId) (dI : Nat → Nat → Nat) (cI cZ cM : ClassId) (sz : Nat) (o_h : Nat) (x0 : Int32) (o_players : Int32) (o_bars : Int32) (o_price : Nat) (o_breath : Nat) (o_kind : Nat) (o_looks : Nat) (o_noise : Nat) (o_repeat : Nat) (o_now : Nat) (o_readPlayer : Nat) (o_readBar : Nat) (o_readPlayers : Int32) (o_readBars : Int32) (o_text : Nat) (o_length : Int32) (o_at : Int32) (o_faultAt : Int32) (o_acts : Int32) (o_next : Int32) (o_row : Nat) (o_heard : Int32) (o_heardOf : Nat) (o_heardBars : Nat) (o_heardPlays : Nat) (o_hushWho : Int32) (o_hushSum : Int32) (o_seed : Int64) (o_isKept : Nat) (o_kept : Nat) (o_now_v : Nat → Int32) (np : Nat) (enp : o_players = nI np) (hnp : np ≤ 6) (nb : Nat) (enb : o_bars = nI nb) (hnb : nb ≤ 8) (lv : Nat) (elv : x0 = nI lv) (hlv : lv < 2) (u : Int32) (hu : u = f_X5_isSilent x0 o_players o_bars o_now_v) : Met l yX5_isSilent wsX5_isSilent { frames := 2, cells := 0, slots := 0, locals := 45 } (hgPc [.ref o_h, .int x0] (dC, dI) cI cZ cM [(o_h, .inr (5, [.int o_players, .int o_bars, .ref o_price, .ref o_breath, .ref o_kind, .ref o_looks, .ref o_noise, .ref o_repeat, .ref o_now, .ref o_readPlayer, .ref o_readBar, .int o_readPlayers, .int o_readBars, .ref o_text, .int o_length, .int o_at, .int o_faultAt, .int o_acts, .int o_next, .ref o_row, .int o_heard, .ref o_heardOf, .ref o_heardBars, .ref o_heardPlays, .int o_hushWho, .int o_hushSum, .long o_seed, .ref o_isKept, .ref o_kept])), (o_now, .inl (cI, 32, .inl o_now_v))] sz) (hgQi (dC, dI) u [(o_h, .inr (5, [.int o_players, .int o_bars, .ref o_price, .ref o_breath, .ref o_kind, .ref o_looks, .ref o_noise, .ref o_repeat, .ref o_now, .ref o_readPlayer, .ref o_readBar, .int o_readPlayers, .int o_readBars, .ref o_text, .int o_length, .int o_at, .int o_faultAt, .int o_acts, .int o_next, .ref o_row, .int o_heard, .ref o_heardOf, .ref o_heardBars, .ref o_heardPlays, .int o_hushWho, .int o_hushSum, .long o_seed, .ref o_isKept, .ref o_kept])), (o_now, .inl (cI, 32, .inl o_now_v))] (va_A [(o_h, .inr (5, [.int o_players, .int o_bars, .ref o_price, .ref o_breath, .ref o_kind, .ref o_looks, .ref o_noise, .ref o_repeat, .ref o_now, .ref o_readPlayer, .ref o_readBar, .int o_readPlayers, .int o_readBars, .ref o_text, .int o_length, .int o_at, .int o_faultAt, .int o_acts, .int o_next, .ref o_row, .int o_heard, .ref o_heardOf, .ref o_heardBars, .ref o_heardPlays, .int o_hushWho, .int o_hushSum, .long o_seed, .ref o_isKept, .ref o_kept])), (o_now, .inl (cI, 32, .inl o_now_v))] sz)) 0 0 (va_A [(o_h, .inr (5, [.int o_players, .int o_bars, .ref o_price, .ref o_breath, .ref o_kind, .ref o_looks, .ref o_noise, .ref o_repeat, .ref o_now, .ref o_readPlayer, .ref o_readBar, .int o_readPlayers, .int o_readBars, .ref o_text, .int o_length, .int o_at, .int o_faultAt, .int o_acts, .int o_next, .ref o_row, .int o_heard, .ref o_heardOf, .ref o_heardBars, .ref o_heardPlays, .int o_hushWho, .int o_hushSum, .long o_seed, .ref o_isKept, .ref o_kept])), (o_now, .inl (cI, 32, .inl o_now_v))] sz) := by
  refine hg_ofW (cc := cX5_isSilent) (maxL := 2) (ret := (some .boolean)) (own := RX5) (fun A => hgQi (dC, dI) u [(o_h, .inr (5, [.int o_players, .int o_bars, .ref o_price, .ref o_breath, .ref o_kind, .ref o_looks, .ref o_noise, .ref o_repeat, .ref o_now, .ref o_readPlayer, .ref o_readBar, .int o_readPlayers, .int o_readBars, .ref o_text, .int o_length, .int o_at, .int o_faultAt, .int o_acts, .int o_next, .ref o_row, .int o_heard, .ref o_heardOf, .ref o_heardBars, .ref o_heardPlays, .int o_hushWho, .int o_hushSum, .long o_seed, .ref o_isKept, .ref o_kept])), (o_now, .inl (cI, 32, .inl o_now_v))] A) rfl (by decide) rfl (Nat.le_of_ble_eq_true rfl) ?_
  intro p e s m below meth c ls A hsz hx hb hr hml hown hts hlk hnm hK hN hA hP hD hS hl
  subst hsz
  have w1 := hts (.fieldLink RX5 28 "HatGoesRoundModel" "now" "[I") (List.mem_of_getElem? (i := 1) rfl)
  have hinX5 : ∀ w ∈ u_ws RX5 TX5 29, w ∈ wsX5_isSilent := fun _ h => List.mem_cons_of_mem _ (List.mem_append_right _ h)
  have w2 := hts (.fieldLink RX5 96 "HatGoesRoundModel" "bars" "I") (List.mem_of_getElem? (i := 2) rfl)
  have hl : lv_has ls 2 [(0, .ref o_h), (1, .int x0)] := hl
  unfold f_X5_isSilent at hu
  refine lv_aload_n hx hb dX5_isSilent_0 rfl (lv_at hl 0 rfl) ?_
  refine lv_iload_n hx hb dX5_isSilent_1 rfl (lv_at hl 1 rfl) ?_
  obtain ⟨r1, er1, hu⟩ := lxb_o hu
  refine hg_ci (va_runV (As := [.int x0]) (rest := []) ⟨hx, hb, hml, hown, hts⟩ (c_X5_howMany l dC dI cI cZ cM _ o_h x0 o_players o_bars o_price o_breath o_kind o_looks o_noise o_repeat o_now o_readPlayer o_readBar o_readPlayers o_readBars o_text o_length o_at o_faultAt o_acts o_next o_row o_heard o_heardOf o_heardBars o_heardPlays o_hushWho o_hushSum o_seed o_isKept o_kept o_now_v np enp (by omega) nb enb (by omega) lv elv (by omega) r1 er1) (cwV 1 hts gX5_isSilent_X5_howMany rfl rfl rfl (by decide +kernel) ⟨Nat.le_of_ble_eq_true rfl, Nat.le_of_ble_eq_true rfl⟩) (hgPreV (C := RX5) (T := TX5) (N := 29) (ci := 5) (q0 := 0) hP hD hK hN [0, 1] rfl rfl rfl rfl) rfl rfl hl.1 rfl (lv_room (Nat.le_of_ble_eq_true rfl)) dX5_isSilent_2 ⟨Nat.zero_le _, Nat.zero_le _⟩) hP hD hS hA (wr := []) (wf := [(o_h, .inr (5, [.int o_players, .int o_bars, .ref o_price, .ref o_breath, .ref o_kind, .ref o_looks, .ref o_noise, .ref o_repeat, .ref o_now, .ref o_readPlayer, .ref o_readBar, .int o_readPlayers, .int o_readBars, .ref o_text, .int o_length, .int o_at, .int o_faultAt, .int o_acts, .int o_next, .ref o_row, .int o_heard, .ref o_heardOf, .ref o_heardBars, .ref o_heardPlays, .int o_hushWho, .int o_hushSum, .long o_seed, .ref o_isKept, .ref o_kept])), (o_now, .inl (cI, 32, .inl o_now_v))]) [0, 1] [] [0, 1] rfl rfl rfl (by decide) rfl rfl (fun H locs hP hD hS => ?_)
  refine lv_if_eq (tgt := 27) hx hb dX5_isSilent_5 (by decide) (fun c_5 => ?_) (fun c_5 => ?_)
  · have hu := hu.trans (if_pos c_5)
    refine lv_iconst (v := 1) hx hb dX5_isSilent_27 (by decide) ?_
    refine lv_goto (tgt := 32) hx hb dX5_isSilent_28 (by decide) ?_
    subst hu
    exact hg_rz hx hb hr hlk (by decide) rfl hP hD hS dX5_isSilent_32
  · have hu := hu.trans (if_neg c_5)
    refine lv_aload_n hx hb dX5_isSilent_8 rfl (lv_at hl 0 rfl) ?_
    refine va_get (D := (dC, dI)) (ci := 5) (v := .ref o_now) (C := RX5) (T := TX5) (N := 29) hx hb hts hinX5 hown hK hP 0 rfl rfl 8 (by decide) w1 (fun _ h9 => h9) rfl dX5_isSilent_9 ?_
    refine lv_bipush (v := 16) hx hb dX5_isSilent_12 (by decide) ?_
    refine lv_iload_n hx hb dX5_isSilent_14 rfl (lv_at hl 1 rfl) ?_
    refine lv_imul hx hb dX5_isSilent_15 ?_
    refine lv_bipush (v := 12) hx hb dX5_isSilent_16 (by decide) ?_
    refine lv_iadd hx hb dX5_isSilent_18 ?_
    refine va_iald hx hb hK hP 1 0 rfl rfl (n := 32) (f := o_now_v) (hg_in (n := ((16 * lv) + 12)) (N := 32) (nx_add (nx_mul (show (16 : Int32) = nI 16 from rfl) elv) (show (12 : Int32) = nI 12 from rfl)) (by omega) (by decide)) dX5_isSilent_19 ?_
    refine lv_aload_n hx hb dX5_isSilent_20 rfl (lv_at hl 0 rfl) ?_
    refine va_get (D := (dC, dI)) (ci := 5) (v := .int o_bars) (C := RX5) (T := TX5) (N := 29) hx hb hts hinX5 hown hK hP 0 rfl rfl 1 (by decide) w2 (fun _ h9 => h9) rfl dX5_isSilent_21 ?_
    refine lv_icmp_lt (tgt := 31) hx hb dX5_isSilent_24 (by decide) (fun c_24 => ?_) (fun c_24 => ?_)
    · have hu := hu.trans (if_pos c_24)
      refine lv_iconst (v := 0) hx hb dX5_isSilent_31 (by decide) ?_
      subst hu
      exact hg_rz hx hb hr hlk (by decide) rfl hP hD hS dX5_isSilent_32
    · have hu := hu.trans (if_neg c_24)
      refine lv_iconst (v := 1) hx hb dX5_isSilent_27 (by decide) ?_
      refine lv_goto (tgt := 32) hx hb dX5_isSilent_28 (by decide) ?_
      subst hu
      exact hg_rz hx hb hr hlk (by decide) rfl hP hD hS dX5_isSilent_32

set_option maxHeartbeats 4000000 in
set_option maxRecDepth 100000 in
theorem c_X5_plays (l : Launch) (dC : Nat → ClassId) (dI : Nat → Nat → Nat) (cI cZ cM : ClassId) (sz : Nat) (o_h : Nat) (x0 : Int32) (x1 : Int32) (o_players : Int32) (o_bars : Int32) (o_price : Nat) (o_breath : Nat) (o_kind : Nat) (o_looks : Nat) (o_noise : Nat) (o_repeat : Nat) (o_now : Nat) (o_readPlayer : Nat) (o_readBar : Nat) (o_readPlayers : Int32) (o_readBars : Int32) (o_text : Nat) (o_length : Int32) (o_at : Int32) (o_faultAt : Int32) (o_acts : Int32) (o_next : Int32) (o_row : Nat) (o_heard : Int32) (o_heardOf : Nat) (o_heardBars : Nat) (o_heardPlays : Nat) (o_hushWho : Int32) (o_hushSum : Int32) (o_seed : Int64) (o_isKept : Nat) (o_kept : Nat) (o_now_v : Nat → Int32) (np : Nat) (enp : o_players = nI np) (hnp : np ≤ 6) (nb : Nat) (enb : o_bars = nI nb) (hnb : nb ≤ 8) (lv : Nat) (elv : x0 = nI lv) (hlv : lv < 2) (u : Int32) (hu : u = f_X5_plays x0 x1 o_players o_now_v) : Met l yX5_plays wsX5_plays { frames := 2, cells := 0, slots := 0, locals := 46 } (hgPc [.ref o_h, .int x0, .int x1] (dC, dI) cI cZ cM [(o_h, .inr (5, [.int o_players, .int o_bars, .ref o_price, .ref o_breath, .ref o_kind, .ref o_looks, .ref o_noise, .ref o_repeat, .ref o_now, .ref o_readPlayer, .ref o_readBar, .int o_readPlayers, .int o_readBars, .ref o_text, .int o_length, .int o_at, .int o_faultAt, .int o_acts, .int o_next, .ref o_row, .int o_heard, .ref o_heardOf, .ref o_heardBars, .ref o_heardPlays, .int o_hushWho, .int o_hushSum, .long o_seed, .ref o_isKept, .ref o_kept])), (o_now, .inl (cI, 32, .inl o_now_v))] sz) (hgQi (dC, dI) u [(o_h, .inr (5, [.int o_players, .int o_bars, .ref o_price, .ref o_breath, .ref o_kind, .ref o_looks, .ref o_noise, .ref o_repeat, .ref o_now, .ref o_readPlayer, .ref o_readBar, .int o_readPlayers, .int o_readBars, .ref o_text, .int o_length, .int o_at, .int o_faultAt, .int o_acts, .int o_next, .ref o_row, .int o_heard, .ref o_heardOf, .ref o_heardBars, .ref o_heardPlays, .int o_hushWho, .int o_hushSum, .long o_seed, .ref o_isKept, .ref o_kept])), (o_now, .inl (cI, 32, .inl o_now_v))] (va_A [(o_h, .inr (5, [.int o_players, .int o_bars, .ref o_price, .ref o_breath, .ref o_kind, .ref o_looks, .ref o_noise, .ref o_repeat, .ref o_now, .ref o_readPlayer, .ref o_readBar, .int o_readPlayers, .int o_readBars, .ref o_text, .int o_length, .int o_at, .int o_faultAt, .int o_acts, .int o_next, .ref o_row, .int o_heard, .ref o_heardOf, .ref o_heardBars, .ref o_heardPlays, .int o_hushWho, .int o_hushSum, .long o_seed, .ref o_isKept, .ref o_kept])), (o_now, .inl (cI, 32, .inl o_now_v))] sz)) 0 0 (va_A [(o_h, .inr (5, [.int o_players, .int o_bars, .ref o_price, .ref o_breath, .ref o_kind, .ref o_looks, .ref o_noise, .ref o_repeat, .ref o_now, .ref o_readPlayer, .ref o_readBar, .int o_readPlayers, .int o_readBars, .ref o_text, .int o_length, .int o_at, .int o_faultAt, .int o_acts, .int o_next, .ref o_row, .int o_heard, .ref o_heardOf, .ref o_heardBars, .ref o_heardPlays, .int o_hushWho, .int o_hushSum, .long o_seed, .ref o_isKept, .ref o_kept])), (o_now, .inl (cI, 32, .inl o_now_v))] sz) := by
  refine hg_ofW (cc := cX5_plays) (maxL := 3) (ret := (some .boolean)) (own := RX5) (fun A => hgQi (dC, dI) u [(o_h, .inr (5, [.int o_players, .int o_bars, .ref o_price, .ref o_breath, .ref o_kind, .ref o_looks, .ref o_noise, .ref o_repeat, .ref o_now, .ref o_readPlayer, .ref o_readBar, .int o_readPlayers, .int o_readBars, .ref o_text, .int o_length, .int o_at, .int o_faultAt, .int o_acts, .int o_next, .ref o_row, .int o_heard, .ref o_heardOf, .ref o_heardBars, .ref o_heardPlays, .int o_hushWho, .int o_hushSum, .long o_seed, .ref o_isKept, .ref o_kept])), (o_now, .inl (cI, 32, .inl o_now_v))] A) rfl (by decide) rfl (Nat.le_of_ble_eq_true rfl) ?_
  intro p e s m below meth c ls A hsz hx hb hr hml hown hts hlk hnm hK hN hA hP hD hS hl
  subst hsz
  have w1 := hts (.fieldLink RX5 28 "HatGoesRoundModel" "now" "[I") (List.mem_of_getElem? (i := 1) rfl)
  have hinX5 : ∀ w ∈ u_ws RX5 TX5 29, w ∈ wsX5_plays := fun _ h => List.mem_cons_of_mem _ (List.mem_append_right _ h)
  have hl : lv_has ls 3 [(0, .ref o_h), (1, .int x0), (2, .int x1)] := hl
  unfold f_X5_plays at hu
  refine lv_aload_n hx hb dX5_plays_0 rfl (lv_at hl 0 rfl) ?_
  refine lv_iload_n hx hb dX5_plays_1 rfl (lv_at hl 2 rfl) ?_
  obtain ⟨r1, er1, hu⟩ := lxb_o hu
  refine hg_ci (va_runV (As := [.int x1]) (rest := []) ⟨hx, hb, hml, hown, hts⟩ (c_X5_isPlayer l dC dI cI cZ cM _ o_h x1 o_players o_bars o_price o_breath o_kind o_looks o_noise o_repeat o_now o_readPlayer o_readBar o_readPlayers o_readBars o_text o_length o_at o_faultAt o_acts o_next o_row o_heard o_heardOf o_heardBars o_heardPlays o_hushWho o_hushSum o_seed o_isKept o_kept np enp (by omega) nb enb (by omega) r1 er1) (cwV 1 hts gX5_plays_X5_isPlayer rfl rfl rfl (by decide +kernel) ⟨Nat.le_of_ble_eq_true rfl, Nat.le_of_ble_eq_true rfl⟩) (hgPreV (C := RX5) (T := TX5) (N := 29) (ci := 5) (q0 := 0) hP hD hK hN [0] rfl rfl rfl rfl) rfl rfl hl.1 rfl (lv_room (Nat.le_of_ble_eq_true rfl)) dX5_plays_2 ⟨Nat.zero_le _, Nat.zero_le _⟩) hP hD hS hA (wr := [(o_now, .inl (cI, 32, .inl o_now_v))]) (wf := [(o_h, .inr (5, [.int o_players, .int o_bars, .ref o_price, .ref o_breath, .ref o_kind, .ref o_looks, .ref o_noise, .ref o_repeat, .ref o_now, .ref o_readPlayer, .ref o_readBar, .int o_readPlayers, .int o_readBars, .ref o_text, .int o_length, .int o_at, .int o_faultAt, .int o_acts, .int o_next, .ref o_row, .int o_heard, .ref o_heardOf, .ref o_heardBars, .ref o_heardPlays, .int o_hushWho, .int o_hushSum, .long o_seed, .ref o_isKept, .ref o_kept])), (o_now, .inl (cI, 32, .inl o_now_v))]) [0] [1] [1, 0] rfl rfl rfl (by decide) rfl rfl (fun H locs hP hD hS => ?_)
  refine lv_if_eq (tgt := 26) hx hb dX5_plays_5 (by decide) (fun c_5 => ?_) (fun c_5 => ?_)
  · have hu := hu.trans (if_pos c_5)
    refine lv_iconst (v := 0) hx hb dX5_plays_26 (by decide) ?_
    subst hu
    exact hg_rz hx hb hr hlk (by decide) rfl hP hD hS dX5_plays_27
  · have hu := hu.trans (if_neg c_5)
    obtain ⟨jp, hjp, ejp⟩ := mP enp hnp er1 c_5
    refine lv_aload_n hx hb dX5_plays_8 rfl (lv_at hl 0 rfl) ?_
    refine va_get (D := (dC, dI)) (ci := 5) (v := .ref o_now) (C := RX5) (T := TX5) (N := 29) hx hb hts hinX5 hown hK hP 0 rfl rfl 8 (by decide) w1 (fun _ h9 => h9) rfl dX5_plays_9 ?_
    refine lv_bipush (v := 16) hx hb dX5_plays_12 (by decide) ?_
    refine lv_iload_n hx hb dX5_plays_14 rfl (lv_at hl 1 rfl) ?_
    refine lv_imul hx hb dX5_plays_15 ?_
    refine lv_iload_n hx hb dX5_plays_16 rfl (lv_at hl 2 rfl) ?_
    refine lv_iadd hx hb dX5_plays_17 ?_
    refine va_iald hx hb hK hP 1 0 rfl rfl (n := 32) (f := o_now_v) (hg_in (n := ((16 * lv) + jp)) (N := 32) (nx_add (nx_mul (show (16 : Int32) = nI 16 from rfl) elv) ejp) (by omega) (by decide)) dX5_plays_18 ?_
    refine lv_if_ne (tgt := 26) hx hb dX5_plays_19 (by decide) (fun c_19 => ?_) (fun c_19 => ?_)
    · have hu := hu.trans (if_neg c_19)
      refine lv_iconst (v := 0) hx hb dX5_plays_26 (by decide) ?_
      subst hu
      exact hg_rz hx hb hr hlk (by decide) rfl hP hD hS dX5_plays_27
    · have hu := hu.trans (if_pos c_19)
      refine lv_iconst (v := 1) hx hb dX5_plays_22 (by decide) ?_
      refine lv_goto (tgt := 27) hx hb dX5_plays_23 (by decide) ?_
      subst hu
      exact hg_rz hx hb hr hlk (by decide) rfl hP hD hS dX5_plays_27

set_option maxHeartbeats 4000000 in
set_option maxRecDepth 100000 in
theorem c_X5_blow (l : Launch) (dC : Nat → ClassId) (dI : Nat → Nat → Nat) (cI cZ cM : ClassId) (sz : Nat) (o_h : Nat) (x0 : Int32) (x1 : Int32) (o_players : Int32) (o_bars : Int32) (o_price : Nat) (o_breath : Nat) (o_kind : Nat) (o_looks : Nat) (o_noise : Nat) (o_repeat : Nat) (o_now : Nat) (o_readPlayer : Nat) (o_readBar : Nat) (o_readPlayers : Int32) (o_readBars : Int32) (o_text : Nat) (o_length : Int32) (o_at : Int32) (o_faultAt : Int32) (o_acts : Int32) (o_next : Int32) (o_row : Nat) (o_heard : Int32) (o_heardOf : Nat) (o_heardBars : Nat) (o_heardPlays : Nat) (o_hushWho : Int32) (o_hushSum : Int32) (o_seed : Int64) (o_isKept : Nat) (o_kept : Nat) (o_now_v : Nat → Int32) (o_kind_v : Nat → Int32) (np : Nat) (enp : o_players = nI np) (hnp : np ≤ 6) (nb : Nat) (enb : o_bars = nI nb) (hnb : nb ≤ 8) (lv : Nat) (elv : x0 = nI lv) (hlv : lv < 2) (hB : mB o_now_v) (u : (Nat → Int32)) (hu : u = f_X5_blow x0 x1 o_players o_now_v o_kind_v) : Met l yX5_blow wsX5_blow { frames := 0, cells := 0, slots := 0, locals := 0 } (hgPc [.ref o_h, .int x0, .int x1] (dC, dI) cI cZ cM [(o_h, .inr (5, [.int o_players, .int o_bars, .ref o_price, .ref o_breath, .ref o_kind, .ref o_looks, .ref o_noise, .ref o_repeat, .ref o_now, .ref o_readPlayer, .ref o_readBar, .int o_readPlayers, .int o_readBars, .ref o_text, .int o_length, .int o_at, .int o_faultAt, .int o_acts, .int o_next, .ref o_row, .int o_heard, .ref o_heardOf, .ref o_heardBars, .ref o_heardPlays, .int o_hushWho, .int o_hushSum, .long o_seed, .ref o_isKept, .ref o_kept])), (o_now, .inl (cI, 32, .inl o_now_v)), (o_kind, .inl (cI, 6, .inl o_kind_v))] sz) (hgQvE (dC, dI) [(o_h, .inr (5, [.int o_players, .int o_bars, .ref o_price, .ref o_breath, .ref o_kind, .ref o_looks, .ref o_noise, .ref o_repeat, .ref o_now, .ref o_readPlayer, .ref o_readBar, .int o_readPlayers, .int o_readBars, .ref o_text, .int o_length, .int o_at, .int o_faultAt, .int o_acts, .int o_next, .ref o_row, .int o_heard, .ref o_heardOf, .ref o_heardBars, .ref o_heardPlays, .int o_hushWho, .int o_hushSum, .long o_seed, .ref o_isKept, .ref o_kept])), (o_now, .inl (cI, 32, .inl u)), (o_kind, .inl (cI, 6, .inl o_kind_v))] (mB u) (va_A [(o_h, .inr (5, [.int o_players, .int o_bars, .ref o_price, .ref o_breath, .ref o_kind, .ref o_looks, .ref o_noise, .ref o_repeat, .ref o_now, .ref o_readPlayer, .ref o_readBar, .int o_readPlayers, .int o_readBars, .ref o_text, .int o_length, .int o_at, .int o_faultAt, .int o_acts, .int o_next, .ref o_row, .int o_heard, .ref o_heardOf, .ref o_heardBars, .ref o_heardPlays, .int o_hushWho, .int o_hushSum, .long o_seed, .ref o_isKept, .ref o_kept])), (o_now, .inl (cI, 32, .inl o_now_v)), (o_kind, .inl (cI, 6, .inl o_kind_v))] sz)) 0 0 (va_A [(o_h, .inr (5, [.int o_players, .int o_bars, .ref o_price, .ref o_breath, .ref o_kind, .ref o_looks, .ref o_noise, .ref o_repeat, .ref o_now, .ref o_readPlayer, .ref o_readBar, .int o_readPlayers, .int o_readBars, .ref o_text, .int o_length, .int o_at, .int o_faultAt, .int o_acts, .int o_next, .ref o_row, .int o_heard, .ref o_heardOf, .ref o_heardBars, .ref o_heardPlays, .int o_hushWho, .int o_hushSum, .long o_seed, .ref o_isKept, .ref o_kept])), (o_now, .inl (cI, 32, .inl o_now_v)), (o_kind, .inl (cI, 6, .inl o_kind_v))] sz) := by
  refine hg_ofW (cc := cX5_blow) (maxL := 6) (ret := none) (own := RX5) (fun A => hgQvE (dC, dI) [(o_h, .inr (5, [.int o_players, .int o_bars, .ref o_price, .ref o_breath, .ref o_kind, .ref o_looks, .ref o_noise, .ref o_repeat, .ref o_now, .ref o_readPlayer, .ref o_readBar, .int o_readPlayers, .int o_readBars, .ref o_text, .int o_length, .int o_at, .int o_faultAt, .int o_acts, .int o_next, .ref o_row, .int o_heard, .ref o_heardOf, .ref o_heardBars, .ref o_heardPlays, .int o_hushWho, .int o_hushSum, .long o_seed, .ref o_isKept, .ref o_kept])), (o_now, .inl (cI, 32, .inl u)), (o_kind, .inl (cI, 6, .inl o_kind_v))] (mB u) A) rfl (by decide) rfl (Nat.le_of_ble_eq_true rfl) ?_
  intro p e s m below meth c ls A hsz hx hb hr hml hown hts hlk hnm hK hN hA hP hD hS hl
  subst hsz
  have w1 := hts (.fieldLink RX5 93 "HatGoesRoundModel" "players" "I") (List.mem_of_getElem? (i := 1) rfl)
  have hinX5 : ∀ w ∈ u_ws RX5 TX5 29, w ∈ wsX5_blow := fun _ h => List.mem_cons_of_mem _ (List.mem_append_right _ h)
  have w2 := hts (.fieldLink RX5 28 "HatGoesRoundModel" "now" "[I") (List.mem_of_getElem? (i := 2) rfl)
  have w3 := hts (.fieldLink RX5 16 "HatGoesRoundModel" "kind" "[I") (List.mem_of_getElem? (i := 3) rfl)
  have hl : lv_has ls 6 [(0, .ref o_h), (1, .int x0), (2, .int x1)] := hl
  unfold f_X5_blow at hu
  refine lv_bipush (v := 16) hx hb dX5_blow_0 (by decide) ?_
  refine lv_iload_n hx hb dX5_blow_2 rfl (lv_at hl 1 rfl) ?_
  refine lv_imul hx hb dX5_blow_3 ?_
  refine lv_istore_n (lv' := [(3, .int (16 * x0)), (0, .ref o_h), (1, .int x0), (2, .int x1)]) hx hb dX5_blow_4 rfl hl (by decide) rfl (fun ls hl => ?_)
  refine lv_iconst (v := 0) hx hb dX5_blow_5 (by decide) ?_
  refine lv_istore (lv' := [(4, .int 0), (3, .int (16 * x0)), (0, .ref o_h), (1, .int x0), (2, .int x1)]) hx hb dX5_blow_6 hl (by decide) rfl (fun ls hl => ?_)
  obtain ⟨r6, er6, hu⟩ := lxb_o hu
  refine hg_loopFJ (T := (Nat → Int32)) (N := (itn 0 o_players)) (fun v8 => (mB v8)) (fun v8 => [(o_h, .inr (5, [.int o_players, .int o_bars, .ref o_price, .ref o_breath, .ref o_kind, .ref o_looks, .ref o_noise, .ref o_repeat, .ref o_now, .ref o_readPlayer, .ref o_readBar, .int o_readPlayers, .int o_readBars, .ref o_text, .int o_length, .int o_at, .int o_faultAt, .int o_acts, .int o_next, .ref o_row, .int o_heard, .ref o_heardOf, .ref o_heardBars, .ref o_heardPlays, .int o_hushWho, .int o_hushSum, .long o_seed, .ref o_isKept, .ref o_kept])), (o_now, .inl (cI, 32, .inl v8)), (o_kind, .inl (cI, 6, .inl o_kind_v))]) (fun k8 v8 => [(0, .ref o_h), (1, .int x0), (2, .int x1), (3, .int (16 * x0)), (4, .int (nI k8))]) (fun k8 => l_X5_blow_8 x0 x1 o_kind_v o_now_v k8) hB ?_ ?_ hP hD hS (lv_sub hl [2, 3, 4, 1, 0] rfl)
  · intro v8 hJ8 hv H locs ls hP hD hS hl
    obtain rfl : r6 = v8 := er6.trans hv.symm
    have hP : va_P (dC, dI) vwCl [(o_h, .inr (5, [.int o_players, .int o_bars, .ref o_price, .ref o_breath, .ref o_kind, .ref o_looks, .ref o_noise, .ref o_repeat, .ref o_now, .ref o_readPlayer, .ref o_readBar, .int o_readPlayers, .int o_readBars, .ref o_text, .int o_length, .int o_at, .int o_faultAt, .int o_acts, .int o_next, .ref o_row, .int o_heard, .ref o_heardOf, .ref o_heardBars, .ref o_heardPlays, .int o_hushWho, .int o_hushSum, .long o_seed, .ref o_isKept, .ref o_kept])), (o_now, .inl (cI, 32, .inl r6)), (o_kind, .inl (cI, 6, .inl o_kind_v))] H := hP
    have hD : va_D A [(o_h, .inr (5, [.int o_players, .int o_bars, .ref o_price, .ref o_breath, .ref o_kind, .ref o_looks, .ref o_noise, .ref o_repeat, .ref o_now, .ref o_readPlayer, .ref o_readBar, .int o_readPlayers, .int o_readBars, .ref o_text, .int o_length, .int o_at, .int o_faultAt, .int o_acts, .int o_next, .ref o_row, .int o_heard, .ref o_heardOf, .ref o_heardBars, .ref o_heardPlays, .int o_hushWho, .int o_hushSum, .long o_seed, .ref o_isKept, .ref o_kept])), (o_now, .inl (cI, 32, .inl r6)), (o_kind, .inl (cI, 6, .inl o_kind_v))] := hD
    have hl : lv_has ls 6 [(0, .ref o_h), (1, .int x0), (2, .int x1), (3, .int (16 * x0)), (4, .int (nI (itn 0 o_players)))] := hl
    refine lv_iload hx hb dX5_blow_8 (lv_at hl 4 rfl) ?_
    refine lv_aload_n hx hb dX5_blow_10 rfl (lv_at hl 0 rfl) ?_
    refine va_get (D := (dC, dI)) (ci := 5) (v := .int o_players) (C := RX5) (T := TX5) (N := 29) hx hb hts hinX5 hown hK hP 0 rfl rfl 0 (by decide) w1 (fun _ h9 => h9) rfl dX5_blow_11 ?_
    refine lv_icmp_ge (tgt := 135) hx hb dX5_blow_14 (by decide) (fun c_14 => ?_) (fun c_14 => absurd hg_lo0 c_14)
    subst hu
    exact hg_rvE hx hb hr hlk hJ8 hP hD hS dX5_blow_135
  · intro k8 hk v8 hJ8 hv w hw ih H locs ls hP hD hS hl
    have hw : w = b_X5_blow_8 x0 x1 o_kind_v k8 v8 := by rw [hw, hv]; rfl
    unfold b_X5_blow_8 at hw
    have hkb : k8 + 0 < np := hg_itn0 enp (by omega) hk
    have hP : va_P (dC, dI) vwCl [(o_h, .inr (5, [.int o_players, .int o_bars, .ref o_price, .ref o_breath, .ref o_kind, .ref o_looks, .ref o_noise, .ref o_repeat, .ref o_now, .ref o_readPlayer, .ref o_readBar, .int o_readPlayers, .int o_readBars, .ref o_text, .int o_length, .int o_at, .int o_faultAt, .int o_acts, .int o_next, .ref o_row, .int o_heard, .ref o_heardOf, .ref o_heardBars, .ref o_heardPlays, .int o_hushWho, .int o_hushSum, .long o_seed, .ref o_isKept, .ref o_kept])), (o_now, .inl (cI, 32, .inl v8)), (o_kind, .inl (cI, 6, .inl o_kind_v))] H := hP
    have hD : va_D A [(o_h, .inr (5, [.int o_players, .int o_bars, .ref o_price, .ref o_breath, .ref o_kind, .ref o_looks, .ref o_noise, .ref o_repeat, .ref o_now, .ref o_readPlayer, .ref o_readBar, .int o_readPlayers, .int o_readBars, .ref o_text, .int o_length, .int o_at, .int o_faultAt, .int o_acts, .int o_next, .ref o_row, .int o_heard, .ref o_heardOf, .ref o_heardBars, .ref o_heardPlays, .int o_hushWho, .int o_hushSum, .long o_seed, .ref o_isKept, .ref o_kept])), (o_now, .inl (cI, 32, .inl v8)), (o_kind, .inl (cI, 6, .inl o_kind_v))] := hD
    have hl : lv_has ls 6 [(0, .ref o_h), (1, .int x0), (2, .int x1), (3, .int (16 * x0)), (4, .int (nI k8))] := hl
    refine lv_iload hx hb dX5_blow_8 (lv_at hl 4 rfl) ?_
    refine lv_aload_n hx hb dX5_blow_10 rfl (lv_at hl 0 rfl) ?_
    refine va_get (D := (dC, dI)) (ci := 5) (v := .int o_players) (C := RX5) (T := TX5) (N := 29) hx hb hts hinX5 hown hK hP 0 rfl rfl 0 (by decide) w1 (fun _ h9 => h9) rfl dX5_blow_11 ?_
    refine lv_icmp_ge (tgt := 135) hx hb dX5_blow_14 (by decide) (fun c_14 => absurd c_14 (hg_lo1 hk)) (fun c_14 => ?_)
    refine lv_aload_n hx hb dX5_blow_17 rfl (lv_at hl 0 rfl) ?_
    refine va_get (D := (dC, dI)) (ci := 5) (v := .ref o_now) (C := RX5) (T := TX5) (N := 29) hx hb hts hinX5 hown hK hP 0 rfl rfl 8 (by decide) w2 (fun _ h9 => h9) rfl dX5_blow_18 ?_
    refine lv_iload_n hx hb dX5_blow_21 rfl (lv_at hl 3 rfl) ?_
    refine lv_iload hx hb dX5_blow_22 (lv_at hl 4 rfl) ?_
    refine lv_iadd hx hb dX5_blow_24 ?_
    refine va_iald hx hb hK hP 1 0 rfl rfl (n := 32) (f := v8) (hg_in (n := ((16 * lv) + k8)) (N := 32) (nx_add (nx_mul (show (16 : Int32) = nI 16 from rfl) elv) rfl) (by omega) (by decide)) dX5_blow_25 ?_
    refine lv_if_ne (tgt := 129) hx hb dX5_blow_26 (by decide) (fun c_26 => ?_) (fun c_26 => ?_)
    · have hw := hw.trans (if_neg c_26)
      refine lv_iinc (v := nI (k8 + 1)) (lv' := [(4, .int (nI (k8 + 1))), (0, .ref o_h), (1, .int x0), (2, .int x1), (3, .int (16 * x0))]) hx hb dX5_blow_129 hl (k := 4) rfl (nI_1 k8) (by decide) rfl (fun ls hl => ?_)
      refine lv_goto (tgt := 8) hx hb dX5_blow_132 (by decide) ?_
      subst hw
      exact ih hJ8 _ _ _ hP hD hS (lv_sub hl [1, 2, 3, 4, 0] rfl)
    · have hw := hw.trans (if_pos c_26)
      refine lv_aload_n hx hb dX5_blow_29 rfl (lv_at hl 0 rfl) ?_
      refine va_get (D := (dC, dI)) (ci := 5) (v := .ref o_kind) (C := RX5) (T := TX5) (N := 29) hx hb hts hinX5 hown hK hP 0 rfl rfl 4 (by decide) w3 (fun _ h9 => h9) rfl dX5_blow_30 ?_
      refine lv_iload hx hb dX5_blow_33 (lv_at hl 4 rfl) ?_
      refine va_iald hx hb hK hP 2 0 rfl rfl (n := 6) (f := o_kind_v) (hg_in (n := k8) (N := 6) rfl (by omega) (by decide)) dX5_blow_35 ?_
      refine lv_iconst (v := 2) hx hb dX5_blow_36 (by decide) ?_
      obtain ⟨z1, ez1, hw⟩ := lxb_o hw
      refine hg_cut (D := (dC, dI)) (A0 := A) (H0 := s.heap) (ws := [(o_h, .inr (5, [.int o_players, .int o_bars, .ref o_price, .ref o_breath, .ref o_kind, .ref o_looks, .ref o_noise, .ref o_repeat, .ref o_now, .ref o_readPlayer, .ref o_readBar, .int o_readPlayers, .int o_readBars, .ref o_text, .int o_length, .int o_at, .int o_faultAt, .int o_acts, .int o_next, .ref o_row, .int o_heard, .ref o_heardOf, .ref o_heardBars, .ref o_heardPlays, .int o_hushWho, .int o_hushSum, .long o_seed, .ref o_isKept, .ref o_kept])), (o_now, .inl (cI, 32, .inl v8)), (o_kind, .inl (cI, 6, .inl o_kind_v))]) (g := F0 m 50 ls [.int z1]) ?_ (fun hJ => ?_)
      · intro H locs hP hD hS
        refine lv_istore (lv' := [(5, .int z1), (0, .ref o_h), (1, .int x0), (2, .int x1), (3, .int (16 * x0)), (4, .int (nI k8))]) hx hb dX5_blow_50 hl (by decide) rfl (fun ls hl => ?_)
        refine lv_aload_n hx hb dX5_blow_52 rfl (lv_at hl 1 rfl) ?_
        refine va_get (D := (dC, dI)) (ci := 5) (v := .ref o_now) (C := RX5) (T := TX5) (N := 29) hx hb hts hinX5 hown hK hP 0 rfl rfl 8 (by decide) w2 (fun _ h9 => h9) rfl dX5_blow_53 ?_
        refine lv_iload_n hx hb dX5_blow_56 rfl (lv_at hl 4 rfl) ?_
        refine lv_bipush (v := 6) hx hb dX5_blow_57 (by decide) ?_
        refine lv_iadd hx hb dX5_blow_59 ?_
        refine lv_iload hx hb dX5_blow_60 (lv_at hl 5 rfl) ?_
        refine lv_iadd hx hb dX5_blow_62 ?_
        refine lv_aload_n hx hb dX5_blow_63 rfl (lv_at hl 1 rfl) ?_
        refine va_get (D := (dC, dI)) (ci := 5) (v := .ref o_now) (C := RX5) (T := TX5) (N := 29) hx hb hts hinX5 hown hK hP 0 rfl rfl 8 (by decide) w2 (fun _ h9 => h9) rfl dX5_blow_64 ?_
        refine lv_iload_n hx hb dX5_blow_67 rfl (lv_at hl 4 rfl) ?_
        refine lv_bipush (v := 6) hx hb dX5_blow_68 (by decide) ?_
        refine lv_iadd hx hb dX5_blow_70 ?_
        refine lv_iload hx hb dX5_blow_71 (lv_at hl 5 rfl) ?_
        refine lv_iadd hx hb dX5_blow_73 ?_
        refine va_iald hx hb hK hP 1 0 rfl rfl (n := 32) (f := v8) (hg_in (n := (((16 * lv) + 6) + k8)) (N := 32) (nx_add (nx_add (nx_mul (show (16 : Int32) = nI 16 from rfl) elv) (show (6 : Int32) = nI 6 from rfl)) rfl) (by omega) (by decide)) dX5_blow_74 ?_
        refine lv_iload hx hb dX5_blow_75 (lv_at hl 0 rfl) ?_
        obtain ⟨z2, ez2, hw⟩ := lxb_o hw
        refine hg_cut (D := (dC, dI)) (A0 := A) (H0 := s.heap) (ws := [(o_h, .inr (5, [.int o_players, .int o_bars, .ref o_price, .ref o_breath, .ref o_kind, .ref o_looks, .ref o_noise, .ref o_repeat, .ref o_now, .ref o_readPlayer, .ref o_readBar, .int o_readPlayers, .int o_readBars, .ref o_text, .int o_length, .int o_at, .int o_faultAt, .int o_acts, .int o_next, .ref o_row, .int o_heard, .ref o_heardOf, .ref o_heardBars, .ref o_heardPlays, .int o_hushWho, .int o_hushSum, .long o_seed, .ref o_isKept, .ref o_kept])), (o_now, .inl (cI, 32, .inl v8)), (o_kind, .inl (cI, 6, .inl o_kind_v))]) (g := F0 m 99 ls [.int z2, .int (((16 * x0) + 6) + nI k8), .ref o_now]) ?_ (fun hJ => ?_)
        · intro H locs hP hD hS
          refine va_iast hx hb hK hP hD hS 1 0 rfl rfl (n := 32) (f := v8) (hg_in (n := (((16 * lv) + 6) + k8)) (N := 32) (nx_add (nx_add (nx_mul (show (16 : Int32) = nI 16 from rfl) elv) (show (6 : Int32) = nI 6 from rfl)) rfl) (by omega) (by decide)) dX5_blow_99 (fun H locs hP hD hS => ?_)
          have hP : va_P (dC, dI) vwCl [(o_h, .inr (5, [.int o_players, .int o_bars, .ref o_price, .ref o_breath, .ref o_kind, .ref o_looks, .ref o_noise, .ref o_repeat, .ref o_now, .ref o_readPlayer, .ref o_readBar, .int o_readPlayers, .int o_readBars, .ref o_text, .int o_length, .int o_at, .int o_faultAt, .int o_acts, .int o_next, .ref o_row, .int o_heard, .ref o_heardOf, .ref o_heardBars, .ref o_heardPlays, .int o_hushWho, .int o_hushSum, .long o_seed, .ref o_isKept, .ref o_kept])), (o_now, .inl (cI, 32, .inl (upd v8 (Int32.toNatClampNeg (((16 * x0) + 6) + nI k8)) z2))), (o_kind, .inl (cI, 6, .inl o_kind_v))] H := hP
          have hD : va_D A [(o_h, .inr (5, [.int o_players, .int o_bars, .ref o_price, .ref o_breath, .ref o_kind, .ref o_looks, .ref o_noise, .ref o_repeat, .ref o_now, .ref o_readPlayer, .ref o_readBar, .int o_readPlayers, .int o_readBars, .ref o_text, .int o_length, .int o_at, .int o_faultAt, .int o_acts, .int o_next, .ref o_row, .int o_heard, .ref o_heardOf, .ref o_heardBars, .ref o_heardPlays, .int o_hushWho, .int o_hushSum, .long o_seed, .ref o_isKept, .ref o_kept])), (o_now, .inl (cI, 32, .inl (upd v8 (Int32.toNatClampNeg (((16 * x0) + 6) + nI k8)) z2))), (o_kind, .inl (cI, 6, .inl o_kind_v))] := hD
          have hB3 : mB (upd v8 (Int32.toNatClampNeg (((16 * x0) + 6) + nI k8)) z2) := mB_upd (n := (((16 * lv) + 6) + k8)) hJ8 (nx_add (nx_add (nx_mul (show (16 : Int32) = nI 16 from rfl) elv) (show (6 : Int32) = nI 6 from rfl)) rfl) (by omega) (fun q => absurd q (by omega))
          refine lv_aload_n hx hb dX5_blow_100 rfl (lv_at hl 1 rfl) ?_
          refine va_get (D := (dC, dI)) (ci := 5) (v := .ref o_now) (C := RX5) (T := TX5) (N := 29) hx hb hts hinX5 hown hK hP 0 rfl rfl 8 (by decide) w2 (fun _ h9 => h9) rfl dX5_blow_101 ?_
          refine lv_iload_n hx hb dX5_blow_104 rfl (lv_at hl 4 rfl) ?_
          refine lv_iload hx hb dX5_blow_105 (lv_at hl 5 rfl) ?_
          refine lv_iadd hx hb dX5_blow_107 ?_
          refine lv_aload_n hx hb dX5_blow_108 rfl (lv_at hl 1 rfl) ?_
          refine va_get (D := (dC, dI)) (ci := 5) (v := .ref o_now) (C := RX5) (T := TX5) (N := 29) hx hb hts hinX5 hown hK hP 0 rfl rfl 8 (by decide) w2 (fun _ h9 => h9) rfl dX5_blow_109 ?_
          refine lv_iload_n hx hb dX5_blow_112 rfl (lv_at hl 4 rfl) ?_
          refine lv_bipush (v := 6) hx hb dX5_blow_113 (by decide) ?_
          refine lv_iadd hx hb dX5_blow_115 ?_
          refine lv_iload hx hb dX5_blow_116 (lv_at hl 5 rfl) ?_
          refine lv_iadd hx hb dX5_blow_118 ?_
          refine va_iald hx hb hK hP 1 0 rfl rfl (n := 32) (f := (upd v8 (Int32.toNatClampNeg (((16 * x0) + 6) + nI k8)) z2)) (hg_in (n := (((16 * lv) + 6) + k8)) (N := 32) (nx_add (nx_add (nx_mul (show (16 : Int32) = nI 16 from rfl) elv) (show (6 : Int32) = nI 6 from rfl)) rfl) (by omega) (by decide)) dX5_blow_119 ?_
          obtain ⟨z4, ez4, hw⟩ := lxb_o hw
          refine hg_cut (D := (dC, dI)) (A0 := A) (H0 := s.heap) (ws := [(o_h, .inr (5, [.int o_players, .int o_bars, .ref o_price, .ref o_breath, .ref o_kind, .ref o_looks, .ref o_noise, .ref o_repeat, .ref o_now, .ref o_readPlayer, .ref o_readBar, .int o_readPlayers, .int o_readBars, .ref o_text, .int o_length, .int o_at, .int o_faultAt, .int o_acts, .int o_next, .ref o_row, .int o_heard, .ref o_heardOf, .ref o_heardBars, .ref o_heardPlays, .int o_hushWho, .int o_hushSum, .long o_seed, .ref o_isKept, .ref o_kept])), (o_now, .inl (cI, 32, .inl (upd v8 (Int32.toNatClampNeg (((16 * x0) + 6) + nI k8)) z2))), (o_kind, .inl (cI, 6, .inl o_kind_v))]) (g := F0 m 128 ls [.int z4, .int ((16 * x0) + nI k8), .ref o_now]) ?_ (fun hJ => ?_)
          · intro H locs hP hD hS
            refine va_iast hx hb hK hP hD hS 1 0 rfl rfl (n := 32) (f := (upd v8 (Int32.toNatClampNeg (((16 * x0) + 6) + nI k8)) z2)) (hg_in (n := ((16 * lv) + k8)) (N := 32) (nx_add (nx_mul (show (16 : Int32) = nI 16 from rfl) elv) rfl) (by omega) (by decide)) dX5_blow_128 (fun H locs hP hD hS => ?_)
            have hP : va_P (dC, dI) vwCl [(o_h, .inr (5, [.int o_players, .int o_bars, .ref o_price, .ref o_breath, .ref o_kind, .ref o_looks, .ref o_noise, .ref o_repeat, .ref o_now, .ref o_readPlayer, .ref o_readBar, .int o_readPlayers, .int o_readBars, .ref o_text, .int o_length, .int o_at, .int o_faultAt, .int o_acts, .int o_next, .ref o_row, .int o_heard, .ref o_heardOf, .ref o_heardBars, .ref o_heardPlays, .int o_hushWho, .int o_hushSum, .long o_seed, .ref o_isKept, .ref o_kept])), (o_now, .inl (cI, 32, .inl (upd (upd v8 (Int32.toNatClampNeg (((16 * x0) + 6) + nI k8)) z2) (Int32.toNatClampNeg ((16 * x0) + nI k8)) z4))), (o_kind, .inl (cI, 6, .inl o_kind_v))] H := hP
            have hD : va_D A [(o_h, .inr (5, [.int o_players, .int o_bars, .ref o_price, .ref o_breath, .ref o_kind, .ref o_looks, .ref o_noise, .ref o_repeat, .ref o_now, .ref o_readPlayer, .ref o_readBar, .int o_readPlayers, .int o_readBars, .ref o_text, .int o_length, .int o_at, .int o_faultAt, .int o_acts, .int o_next, .ref o_row, .int o_heard, .ref o_heardOf, .ref o_heardBars, .ref o_heardPlays, .int o_hushWho, .int o_hushSum, .long o_seed, .ref o_isKept, .ref o_kept])), (o_now, .inl (cI, 32, .inl (upd (upd v8 (Int32.toNatClampNeg (((16 * x0) + 6) + nI k8)) z2) (Int32.toNatClampNeg ((16 * x0) + nI k8)) z4))), (o_kind, .inl (cI, 6, .inl o_kind_v))] := hD
            have hB5 : mB (upd (upd v8 (Int32.toNatClampNeg (((16 * x0) + 6) + nI k8)) z2) (Int32.toNatClampNeg ((16 * x0) + nI k8)) z4) := mB_upd (n := ((16 * lv) + k8)) hB3 (nx_add (nx_mul (show (16 : Int32) = nI 16 from rfl) elv) rfl) (by omega) (fun q => absurd q (by omega))
            refine lv_iinc (v := nI (k8 + 1)) (lv' := [(4, .int (nI (k8 + 1))), (5, .int z1), (0, .ref o_h), (1, .int x0), (2, .int x1), (3, .int (16 * x0))]) hx hb dX5_blow_129 hl (k := 5) rfl (nI_1 k8) (by decide) rfl (fun ls hl => ?_)
            refine lv_goto (tgt := 8) hx hb dX5_blow_132 (by decide) ?_
            subst hw
            exact ih hB5 _ _ _ hP hD hS (lv_sub hl [2, 3, 4, 5, 0] rfl)
          · refine lv_if_ne (tgt := 127) hx hb dX5_blow_120 (by decide) (fun c_120 => ?_) (fun c_120 => ?_)
            · have ez4 := ez4.trans (if_neg c_120)
              refine lv_iconst (v := 0) hx hb dX5_blow_127 (by decide) ?_
              subst ez4
              exact hJ _ _ hP hD hS
            · have ez4 := ez4.trans (if_pos c_120)
              refine lv_iconst (v := 2) hx hb dX5_blow_123 (by decide) ?_
              refine lv_goto (tgt := 128) hx hb dX5_blow_124 (by decide) ?_
              subst ez4
              exact hJ _ _ hP hD hS
        · refine lv_icmp_le (tgt := 98) hx hb dX5_blow_77 (by decide) (fun c_77 => ?_) (fun c_77 => ?_)
          · have ez2 := ez2.trans (if_pos c_77)
            refine lv_iconst (v := 0) hx hb dX5_blow_98 (by decide) ?_
            subst ez2
            exact hJ _ _ hP hD hS
          · have ez2 := ez2.trans (if_neg c_77)
            refine lv_aload_n hx hb dX5_blow_80 rfl (lv_at hl 1 rfl) ?_
            refine va_get (D := (dC, dI)) (ci := 5) (v := .ref o_now) (C := RX5) (T := TX5) (N := 29) hx hb hts hinX5 hown hK hP 0 rfl rfl 8 (by decide) w2 (fun _ h9 => h9) rfl dX5_blow_81 ?_
            refine lv_iload_n hx hb dX5_blow_84 rfl (lv_at hl 4 rfl) ?_
            refine lv_bipush (v := 6) hx hb dX5_blow_85 (by decide) ?_
            refine lv_iadd hx hb dX5_blow_87 ?_
            refine lv_iload hx hb dX5_blow_88 (lv_at hl 5 rfl) ?_
            refine lv_iadd hx hb dX5_blow_90 ?_
            refine va_iald hx hb hK hP 1 0 rfl rfl (n := 32) (f := v8) (hg_in (n := (((16 * lv) + 6) + k8)) (N := 32) (nx_add (nx_add (nx_mul (show (16 : Int32) = nI 16 from rfl) elv) (show (6 : Int32) = nI 6 from rfl)) rfl) (by omega) (by decide)) dX5_blow_91 ?_
            refine lv_iload hx hb dX5_blow_92 (lv_at hl 0 rfl) ?_
            refine lv_isub hx hb dX5_blow_94 ?_
            refine lv_goto (tgt := 99) hx hb dX5_blow_95 (by decide) ?_
            subst ez2
            exact hJ _ _ hP hD hS
      · refine lv_icmp_ne (tgt := 49) hx hb dX5_blow_37 (by decide) (fun c_37 => ?_) (fun c_37 => ?_)
        · have ez1 := ez1.trans (if_neg c_37)
          refine lv_iconst (v := 1) hx hb dX5_blow_49 (by decide) ?_
          subst ez1
          exact hJ _ _ hP hD hS
        · have ez1 := ez1.trans (if_pos c_37)
          refine lv_iload_n hx hb dX5_blow_40 rfl (lv_at hl 2 rfl) ?_
          refine lv_iconst (v := 5) hx hb dX5_blow_41 (by decide) ?_
          refine lv_icmp_lt (tgt := 49) hx hb dX5_blow_42 (by decide) (fun c_42 => ?_) (fun c_42 => ?_)
          · have ez1 := ez1.trans (if_pos c_42)
            refine lv_iconst (v := 1) hx hb dX5_blow_49 (by decide) ?_
            subst ez1
            exact hJ _ _ hP hD hS
          · have ez1 := ez1.trans (if_neg c_42)
            refine lv_iconst (v := 2) hx hb dX5_blow_45 (by decide) ?_
            refine lv_goto (tgt := 50) hx hb dX5_blow_46 (by decide) ?_
            subst ez1
            exact hJ _ _ hP hD hS

set_option maxHeartbeats 4000000 in
set_option maxRecDepth 100000 in
theorem c_X5_lean (l : Launch) (dC : Nat → ClassId) (dI : Nat → Nat → Nat) (cI cZ cM : ClassId) (sz : Nat) (o_h : Nat) (x0 : Int32) (o_players : Int32) (o_bars : Int32) (o_price : Nat) (o_breath : Nat) (o_kind : Nat) (o_looks : Nat) (o_noise : Nat) (o_repeat : Nat) (o_now : Nat) (o_readPlayer : Nat) (o_readBar : Nat) (o_readPlayers : Int32) (o_readBars : Int32) (o_text : Nat) (o_length : Int32) (o_at : Int32) (o_faultAt : Int32) (o_acts : Int32) (o_next : Int32) (o_row : Nat) (o_heard : Int32) (o_heardOf : Nat) (o_heardBars : Nat) (o_heardPlays : Nat) (o_hushWho : Int32) (o_hushSum : Int32) (o_seed : Int64) (o_isKept : Nat) (o_kept : Nat) (o_now_v : Nat → Int32) (o_kind_v : Nat → Int32) (o_looks_v : Nat → Int32) (np : Nat) (enp : o_players = nI np) (hnp : np ≤ 6) (nb : Nat) (enb : o_bars = nI nb) (hnb : nb ≤ 8) (lv : Nat) (elv : x0 = nI lv) (hlv : lv < 2) (hB : mB o_now_v) (u : (Nat → Int32)) (hu : u = f_X5_lean x0 o_players o_now_v o_kind_v o_looks_v) : Met l yX5_lean wsX5_lean { frames := 3, cells := 0, slots := 0, locals := 68 } (hgPc [.ref o_h, .int x0] (dC, dI) cI cZ cM [(o_h, .inr (5, [.int o_players, .int o_bars, .ref o_price, .ref o_breath, .ref o_kind, .ref o_looks, .ref o_noise, .ref o_repeat, .ref o_now, .ref o_readPlayer, .ref o_readBar, .int o_readPlayers, .int o_readBars, .ref o_text, .int o_length, .int o_at, .int o_faultAt, .int o_acts, .int o_next, .ref o_row, .int o_heard, .ref o_heardOf, .ref o_heardBars, .ref o_heardPlays, .int o_hushWho, .int o_hushSum, .long o_seed, .ref o_isKept, .ref o_kept])), (o_now, .inl (cI, 32, .inl o_now_v)), (o_kind, .inl (cI, 6, .inl o_kind_v)), (o_looks, .inl (cI, 6, .inl o_looks_v))] sz) (hgQvE (dC, dI) [(o_h, .inr (5, [.int o_players, .int o_bars, .ref o_price, .ref o_breath, .ref o_kind, .ref o_looks, .ref o_noise, .ref o_repeat, .ref o_now, .ref o_readPlayer, .ref o_readBar, .int o_readPlayers, .int o_readBars, .ref o_text, .int o_length, .int o_at, .int o_faultAt, .int o_acts, .int o_next, .ref o_row, .int o_heard, .ref o_heardOf, .ref o_heardBars, .ref o_heardPlays, .int o_hushWho, .int o_hushSum, .long o_seed, .ref o_isKept, .ref o_kept])), (o_now, .inl (cI, 32, .inl u)), (o_kind, .inl (cI, 6, .inl o_kind_v)), (o_looks, .inl (cI, 6, .inl o_looks_v))] (mB u) (va_A [(o_h, .inr (5, [.int o_players, .int o_bars, .ref o_price, .ref o_breath, .ref o_kind, .ref o_looks, .ref o_noise, .ref o_repeat, .ref o_now, .ref o_readPlayer, .ref o_readBar, .int o_readPlayers, .int o_readBars, .ref o_text, .int o_length, .int o_at, .int o_faultAt, .int o_acts, .int o_next, .ref o_row, .int o_heard, .ref o_heardOf, .ref o_heardBars, .ref o_heardPlays, .int o_hushWho, .int o_hushSum, .long o_seed, .ref o_isKept, .ref o_kept])), (o_now, .inl (cI, 32, .inl o_now_v)), (o_kind, .inl (cI, 6, .inl o_kind_v)), (o_looks, .inl (cI, 6, .inl o_looks_v))] sz)) 0 0 (va_A [(o_h, .inr (5, [.int o_players, .int o_bars, .ref o_price, .ref o_breath, .ref o_kind, .ref o_looks, .ref o_noise, .ref o_repeat, .ref o_now, .ref o_readPlayer, .ref o_readBar, .int o_readPlayers, .int o_readBars, .ref o_text, .int o_length, .int o_at, .int o_faultAt, .int o_acts, .int o_next, .ref o_row, .int o_heard, .ref o_heardOf, .ref o_heardBars, .ref o_heardPlays, .int o_hushWho, .int o_hushSum, .long o_seed, .ref o_isKept, .ref o_kept])), (o_now, .inl (cI, 32, .inl o_now_v)), (o_kind, .inl (cI, 6, .inl o_kind_v)), (o_looks, .inl (cI, 6, .inl o_looks_v))] sz) := by
  refine hg_ofW (cc := cX5_lean) (maxL := 5) (ret := none) (own := RX5) (fun A => hgQvE (dC, dI) [(o_h, .inr (5, [.int o_players, .int o_bars, .ref o_price, .ref o_breath, .ref o_kind, .ref o_looks, .ref o_noise, .ref o_repeat, .ref o_now, .ref o_readPlayer, .ref o_readBar, .int o_readPlayers, .int o_readBars, .ref o_text, .int o_length, .int o_at, .int o_faultAt, .int o_acts, .int o_next, .ref o_row, .int o_heard, .ref o_heardOf, .ref o_heardBars, .ref o_heardPlays, .int o_hushWho, .int o_hushSum, .long o_seed, .ref o_isKept, .ref o_kept])), (o_now, .inl (cI, 32, .inl u)), (o_kind, .inl (cI, 6, .inl o_kind_v)), (o_looks, .inl (cI, 6, .inl o_looks_v))] (mB u) A) rfl (by decide) rfl (Nat.le_of_ble_eq_true rfl) ?_
  intro p e s m below meth c ls A hsz hx hb hr hml hown hts hlk hnm hK hN hA hP hD hS hl
  subst hsz
  have w1 := hts (.fieldLink RX5 93 "HatGoesRoundModel" "players" "I") (List.mem_of_getElem? (i := 1) rfl)
  have hinX5 : ∀ w ∈ u_ws RX5 TX5 29, w ∈ wsX5_lean := fun _ h => List.mem_cons_of_mem _ (List.mem_append_right _ h)
  have w2 := hts (.fieldLink RX5 28 "HatGoesRoundModel" "now" "[I") (List.mem_of_getElem? (i := 2) rfl)
  have w3 := hts (.fieldLink RX5 16 "HatGoesRoundModel" "kind" "[I") (List.mem_of_getElem? (i := 3) rfl)
  have w4 := hts (.fieldLink RX5 19 "HatGoesRoundModel" "looks" "[I") (List.mem_of_getElem? (i := 4) rfl)
  have hl : lv_has ls 5 [(0, .ref o_h), (1, .int x0)] := hl
  unfold f_X5_lean at hu
  refine lv_bipush (v := 16) hx hb dX5_lean_0 (by decide) ?_
  refine lv_iload_n hx hb dX5_lean_2 rfl (lv_at hl 1 rfl) ?_
  refine lv_imul hx hb dX5_lean_3 ?_
  refine lv_istore_n (lv' := [(2, .int (16 * x0)), (0, .ref o_h), (1, .int x0)]) hx hb dX5_lean_4 rfl hl (by decide) rfl (fun ls hl => ?_)
  refine lv_iconst (v := 0) hx hb dX5_lean_5 (by decide) ?_
  refine lv_istore_n (lv' := [(3, .int 0), (2, .int (16 * x0)), (0, .ref o_h), (1, .int x0)]) hx hb dX5_lean_6 rfl hl (by decide) rfl (fun ls hl => ?_)
  obtain ⟨r6, er6, hu⟩ := lxb_o hu
  refine hg_loopFJ (T := (Nat → Int32)) (N := (itn 0 o_players)) (fun v7 => (mB v7)) (fun v7 => [(o_h, .inr (5, [.int o_players, .int o_bars, .ref o_price, .ref o_breath, .ref o_kind, .ref o_looks, .ref o_noise, .ref o_repeat, .ref o_now, .ref o_readPlayer, .ref o_readBar, .int o_readPlayers, .int o_readBars, .ref o_text, .int o_length, .int o_at, .int o_faultAt, .int o_acts, .int o_next, .ref o_row, .int o_heard, .ref o_heardOf, .ref o_heardBars, .ref o_heardPlays, .int o_hushWho, .int o_hushSum, .long o_seed, .ref o_isKept, .ref o_kept])), (o_now, .inl (cI, 32, .inl v7)), (o_kind, .inl (cI, 6, .inl o_kind_v)), (o_looks, .inl (cI, 6, .inl o_looks_v))]) (fun k7 v7 => [(0, .ref o_h), (1, .int x0), (2, .int (16 * x0)), (3, .int (nI k7))]) (fun k7 => l_X5_lean_7 x0 o_players o_kind_v o_looks_v o_now_v k7) hB ?_ ?_ hP hD hS (lv_sub hl [2, 3, 1, 0] rfl)
  · intro v7 hJ7 hv H locs ls hP hD hS hl
    obtain rfl : r6 = v7 := er6.trans hv.symm
    have hP : va_P (dC, dI) vwCl [(o_h, .inr (5, [.int o_players, .int o_bars, .ref o_price, .ref o_breath, .ref o_kind, .ref o_looks, .ref o_noise, .ref o_repeat, .ref o_now, .ref o_readPlayer, .ref o_readBar, .int o_readPlayers, .int o_readBars, .ref o_text, .int o_length, .int o_at, .int o_faultAt, .int o_acts, .int o_next, .ref o_row, .int o_heard, .ref o_heardOf, .ref o_heardBars, .ref o_heardPlays, .int o_hushWho, .int o_hushSum, .long o_seed, .ref o_isKept, .ref o_kept])), (o_now, .inl (cI, 32, .inl r6)), (o_kind, .inl (cI, 6, .inl o_kind_v)), (o_looks, .inl (cI, 6, .inl o_looks_v))] H := hP
    have hD : va_D A [(o_h, .inr (5, [.int o_players, .int o_bars, .ref o_price, .ref o_breath, .ref o_kind, .ref o_looks, .ref o_noise, .ref o_repeat, .ref o_now, .ref o_readPlayer, .ref o_readBar, .int o_readPlayers, .int o_readBars, .ref o_text, .int o_length, .int o_at, .int o_faultAt, .int o_acts, .int o_next, .ref o_row, .int o_heard, .ref o_heardOf, .ref o_heardBars, .ref o_heardPlays, .int o_hushWho, .int o_hushSum, .long o_seed, .ref o_isKept, .ref o_kept])), (o_now, .inl (cI, 32, .inl r6)), (o_kind, .inl (cI, 6, .inl o_kind_v)), (o_looks, .inl (cI, 6, .inl o_looks_v))] := hD
    have hl : lv_has ls 5 [(0, .ref o_h), (1, .int x0), (2, .int (16 * x0)), (3, .int (nI (itn 0 o_players)))] := hl
    refine lv_iload_n hx hb dX5_lean_7 rfl (lv_at hl 3 rfl) ?_
    refine lv_aload_n hx hb dX5_lean_8 rfl (lv_at hl 0 rfl) ?_
    refine va_get (D := (dC, dI)) (ci := 5) (v := .int o_players) (C := RX5) (T := TX5) (N := 29) hx hb hts hinX5 hown hK hP 0 rfl rfl 0 (by decide) w1 (fun _ h9 => h9) rfl dX5_lean_9 ?_
    refine lv_icmp_ge (tgt := 101) hx hb dX5_lean_12 (by decide) (fun c_12 => ?_) (fun c_12 => absurd hg_lo0 c_12)
    refine lv_iconst (v := 0) hx hb dX5_lean_101 (by decide) ?_
    refine lv_istore_n (lv' := [(3, .int 0), (0, .ref o_h), (1, .int x0), (2, .int (16 * x0))]) hx hb dX5_lean_102 rfl hl (by decide) rfl (fun ls hl => ?_)
    refine lv_iconst (v := 0) hx hb dX5_lean_103 (by decide) ?_
    refine lv_istore (lv' := [(4, .int 0), (3, .int 0), (0, .ref o_h), (1, .int x0), (2, .int (16 * x0))]) hx hb dX5_lean_104 hl (by decide) rfl (fun ls hl => ?_)
    obtain ⟨r8, er8, hu⟩ := lxb_o hu
    refine hg_loopF (T := Int32) (N := (itn 0 o_players)) (fun v106 => [(o_h, .inr (5, [.int o_players, .int o_bars, .ref o_price, .ref o_breath, .ref o_kind, .ref o_looks, .ref o_noise, .ref o_repeat, .ref o_now, .ref o_readPlayer, .ref o_readBar, .int o_readPlayers, .int o_readBars, .ref o_text, .int o_length, .int o_at, .int o_faultAt, .int o_acts, .int o_next, .ref o_row, .int o_heard, .ref o_heardOf, .ref o_heardBars, .ref o_heardPlays, .int o_hushWho, .int o_hushSum, .long o_seed, .ref o_isKept, .ref o_kept])), (o_now, .inl (cI, 32, .inl r6)), (o_kind, .inl (cI, 6, .inl o_kind_v)), (o_looks, .inl (cI, 6, .inl o_looks_v))]) (fun k106 v106 => [(0, .ref o_h), (1, .int x0), (2, .int (16 * x0)), (3, .int v106), (4, .int (nI k106))]) (fun k106 => l_X5_lean_106 x0 o_kind_v r6 0 k106) ?_ ?_ hP hD hS (lv_sub hl [2, 3, 4, 1, 0] rfl)
    · intro v106 hv H locs ls hP hD hS hl
      obtain rfl : r8 = v106 := er8.trans hv.symm
      have hP : va_P (dC, dI) vwCl [(o_h, .inr (5, [.int o_players, .int o_bars, .ref o_price, .ref o_breath, .ref o_kind, .ref o_looks, .ref o_noise, .ref o_repeat, .ref o_now, .ref o_readPlayer, .ref o_readBar, .int o_readPlayers, .int o_readBars, .ref o_text, .int o_length, .int o_at, .int o_faultAt, .int o_acts, .int o_next, .ref o_row, .int o_heard, .ref o_heardOf, .ref o_heardBars, .ref o_heardPlays, .int o_hushWho, .int o_hushSum, .long o_seed, .ref o_isKept, .ref o_kept])), (o_now, .inl (cI, 32, .inl r6)), (o_kind, .inl (cI, 6, .inl o_kind_v)), (o_looks, .inl (cI, 6, .inl o_looks_v))] H := hP
      have hD : va_D A [(o_h, .inr (5, [.int o_players, .int o_bars, .ref o_price, .ref o_breath, .ref o_kind, .ref o_looks, .ref o_noise, .ref o_repeat, .ref o_now, .ref o_readPlayer, .ref o_readBar, .int o_readPlayers, .int o_readBars, .ref o_text, .int o_length, .int o_at, .int o_faultAt, .int o_acts, .int o_next, .ref o_row, .int o_heard, .ref o_heardOf, .ref o_heardBars, .ref o_heardPlays, .int o_hushWho, .int o_hushSum, .long o_seed, .ref o_isKept, .ref o_kept])), (o_now, .inl (cI, 32, .inl r6)), (o_kind, .inl (cI, 6, .inl o_kind_v)), (o_looks, .inl (cI, 6, .inl o_looks_v))] := hD
      have hl : lv_has ls 5 [(0, .ref o_h), (1, .int x0), (2, .int (16 * x0)), (3, .int r8), (4, .int (nI (itn 0 o_players)))] := hl
      refine lv_iload hx hb dX5_lean_106 (lv_at hl 4 rfl) ?_
      refine lv_aload_n hx hb dX5_lean_108 rfl (lv_at hl 0 rfl) ?_
      refine va_get (D := (dC, dI)) (ci := 5) (v := .int o_players) (C := RX5) (T := TX5) (N := 29) hx hb hts hinX5 hown hK hP 0 rfl rfl 0 (by decide) w1 (fun _ h9 => h9) rfl dX5_lean_109 ?_
      refine lv_icmp_ge (tgt := 154) hx hb dX5_lean_112 (by decide) (fun c_112 => ?_) (fun c_112 => absurd hg_lo0 c_112)
      refine lv_iconst (v := 0) hx hb dX5_lean_154 (by decide) ?_
      refine lv_istore (lv' := [(4, .int 0), (0, .ref o_h), (1, .int x0), (2, .int (16 * x0)), (3, .int r8)]) hx hb dX5_lean_155 hl (by decide) rfl (fun ls hl => ?_)
      obtain ⟨r11, er11, hu⟩ := lxb_o hu
      refine hg_loopFJ (T := (Nat → Int32)) (N := (itn 0 o_players)) (fun v157 => (mB v157)) (fun v157 => [(o_h, .inr (5, [.int o_players, .int o_bars, .ref o_price, .ref o_breath, .ref o_kind, .ref o_looks, .ref o_noise, .ref o_repeat, .ref o_now, .ref o_readPlayer, .ref o_readBar, .int o_readPlayers, .int o_readBars, .ref o_text, .int o_length, .int o_at, .int o_faultAt, .int o_acts, .int o_next, .ref o_row, .int o_heard, .ref o_heardOf, .ref o_heardBars, .ref o_heardPlays, .int o_hushWho, .int o_hushSum, .long o_seed, .ref o_isKept, .ref o_kept])), (o_now, .inl (cI, 32, .inl v157)), (o_kind, .inl (cI, 6, .inl o_kind_v)), (o_looks, .inl (cI, 6, .inl o_looks_v))]) (fun k157 v157 => [(0, .ref o_h), (1, .int x0), (2, .int (16 * x0)), (3, .int r8), (4, .int (nI k157))]) (fun k157 => l_X5_lean_157 x0 o_kind_v r8 r6 k157) hJ7 ?_ ?_ hP hD hS (lv_sub hl [1, 2, 3, 4, 0] rfl)
      · intro v157 hJ157 hv H locs ls hP hD hS hl
        obtain rfl : r11 = v157 := er11.trans hv.symm
        have hP : va_P (dC, dI) vwCl [(o_h, .inr (5, [.int o_players, .int o_bars, .ref o_price, .ref o_breath, .ref o_kind, .ref o_looks, .ref o_noise, .ref o_repeat, .ref o_now, .ref o_readPlayer, .ref o_readBar, .int o_readPlayers, .int o_readBars, .ref o_text, .int o_length, .int o_at, .int o_faultAt, .int o_acts, .int o_next, .ref o_row, .int o_heard, .ref o_heardOf, .ref o_heardBars, .ref o_heardPlays, .int o_hushWho, .int o_hushSum, .long o_seed, .ref o_isKept, .ref o_kept])), (o_now, .inl (cI, 32, .inl r11)), (o_kind, .inl (cI, 6, .inl o_kind_v)), (o_looks, .inl (cI, 6, .inl o_looks_v))] H := hP
        have hD : va_D A [(o_h, .inr (5, [.int o_players, .int o_bars, .ref o_price, .ref o_breath, .ref o_kind, .ref o_looks, .ref o_noise, .ref o_repeat, .ref o_now, .ref o_readPlayer, .ref o_readBar, .int o_readPlayers, .int o_readBars, .ref o_text, .int o_length, .int o_at, .int o_faultAt, .int o_acts, .int o_next, .ref o_row, .int o_heard, .ref o_heardOf, .ref o_heardBars, .ref o_heardPlays, .int o_hushWho, .int o_hushSum, .long o_seed, .ref o_isKept, .ref o_kept])), (o_now, .inl (cI, 32, .inl r11)), (o_kind, .inl (cI, 6, .inl o_kind_v)), (o_looks, .inl (cI, 6, .inl o_looks_v))] := hD
        have hl : lv_has ls 5 [(0, .ref o_h), (1, .int x0), (2, .int (16 * x0)), (3, .int r8), (4, .int (nI (itn 0 o_players)))] := hl
        refine lv_iload hx hb dX5_lean_157 (lv_at hl 4 rfl) ?_
        refine lv_aload_n hx hb dX5_lean_159 rfl (lv_at hl 0 rfl) ?_
        refine va_get (D := (dC, dI)) (ci := 5) (v := .int o_players) (C := RX5) (T := TX5) (N := 29) hx hb hts hinX5 hown hK hP 0 rfl rfl 0 (by decide) w1 (fun _ h9 => h9) rfl dX5_lean_160 ?_
        refine lv_icmp_ge (tgt := 221) hx hb dX5_lean_163 (by decide) (fun c_163 => ?_) (fun c_163 => absurd hg_lo0 c_163)
        refine lv_iconst (v := 0) hx hb dX5_lean_221 (by decide) ?_
        refine lv_istore (lv' := [(4, .int 0), (0, .ref o_h), (1, .int x0), (2, .int (16 * x0)), (3, .int r8)]) hx hb dX5_lean_222 hl (by decide) rfl (fun ls hl => ?_)
        obtain ⟨r15, er15, hu⟩ := lxb_o hu
        refine hg_loopFJ (T := (Nat → Int32)) (N := (itn 0 o_players)) (fun v224 => (mB v224)) (fun v224 => [(o_h, .inr (5, [.int o_players, .int o_bars, .ref o_price, .ref o_breath, .ref o_kind, .ref o_looks, .ref o_noise, .ref o_repeat, .ref o_now, .ref o_readPlayer, .ref o_readBar, .int o_readPlayers, .int o_readBars, .ref o_text, .int o_length, .int o_at, .int o_faultAt, .int o_acts, .int o_next, .ref o_row, .int o_heard, .ref o_heardOf, .ref o_heardBars, .ref o_heardPlays, .int o_hushWho, .int o_hushSum, .long o_seed, .ref o_isKept, .ref o_kept])), (o_now, .inl (cI, 32, .inl v224)), (o_kind, .inl (cI, 6, .inl o_kind_v)), (o_looks, .inl (cI, 6, .inl o_looks_v))]) (fun k224 v224 => [(0, .ref o_h), (1, .int x0), (2, .int (16 * x0)), (3, .int r8), (4, .int (nI k224))]) (fun k224 => l_X5_lean_224 x0 o_players o_kind_v o_looks_v r11 k224) hJ157 ?_ ?_ hP hD hS (lv_sub hl [1, 2, 3, 4, 0] rfl)
        · intro v224 hJ224 hv H locs ls hP hD hS hl
          obtain rfl : r15 = v224 := er15.trans hv.symm
          have hP : va_P (dC, dI) vwCl [(o_h, .inr (5, [.int o_players, .int o_bars, .ref o_price, .ref o_breath, .ref o_kind, .ref o_looks, .ref o_noise, .ref o_repeat, .ref o_now, .ref o_readPlayer, .ref o_readBar, .int o_readPlayers, .int o_readBars, .ref o_text, .int o_length, .int o_at, .int o_faultAt, .int o_acts, .int o_next, .ref o_row, .int o_heard, .ref o_heardOf, .ref o_heardBars, .ref o_heardPlays, .int o_hushWho, .int o_hushSum, .long o_seed, .ref o_isKept, .ref o_kept])), (o_now, .inl (cI, 32, .inl r15)), (o_kind, .inl (cI, 6, .inl o_kind_v)), (o_looks, .inl (cI, 6, .inl o_looks_v))] H := hP
          have hD : va_D A [(o_h, .inr (5, [.int o_players, .int o_bars, .ref o_price, .ref o_breath, .ref o_kind, .ref o_looks, .ref o_noise, .ref o_repeat, .ref o_now, .ref o_readPlayer, .ref o_readBar, .int o_readPlayers, .int o_readBars, .ref o_text, .int o_length, .int o_at, .int o_faultAt, .int o_acts, .int o_next, .ref o_row, .int o_heard, .ref o_heardOf, .ref o_heardBars, .ref o_heardPlays, .int o_hushWho, .int o_hushSum, .long o_seed, .ref o_isKept, .ref o_kept])), (o_now, .inl (cI, 32, .inl r15)), (o_kind, .inl (cI, 6, .inl o_kind_v)), (o_looks, .inl (cI, 6, .inl o_looks_v))] := hD
          have hl : lv_has ls 5 [(0, .ref o_h), (1, .int x0), (2, .int (16 * x0)), (3, .int r8), (4, .int (nI (itn 0 o_players)))] := hl
          refine lv_iload hx hb dX5_lean_224 (lv_at hl 4 rfl) ?_
          refine lv_aload_n hx hb dX5_lean_226 rfl (lv_at hl 0 rfl) ?_
          refine va_get (D := (dC, dI)) (ci := 5) (v := .int o_players) (C := RX5) (T := TX5) (N := 29) hx hb hts hinX5 hown hK hP 0 rfl rfl 0 (by decide) w1 (fun _ h9 => h9) rfl dX5_lean_227 ?_
          refine lv_icmp_ge (tgt := 301) hx hb dX5_lean_230 (by decide) (fun c_230 => ?_) (fun c_230 => absurd hg_lo0 c_230)
          subst hu
          exact hg_rvE hx hb hr hlk hJ224 hP hD hS dX5_lean_301
        · intro k224 hk v224 hJ224 hv w hw ih H locs ls hP hD hS hl
          have hw : w = b_X5_lean_224 x0 o_players o_kind_v o_looks_v k224 v224 := by rw [hw, hv]; rfl
          unfold b_X5_lean_224 at hw
          have hkb : k224 + 0 < np := hg_itn0 enp (by omega) hk
          have hP : va_P (dC, dI) vwCl [(o_h, .inr (5, [.int o_players, .int o_bars, .ref o_price, .ref o_breath, .ref o_kind, .ref o_looks, .ref o_noise, .ref o_repeat, .ref o_now, .ref o_readPlayer, .ref o_readBar, .int o_readPlayers, .int o_readBars, .ref o_text, .int o_length, .int o_at, .int o_faultAt, .int o_acts, .int o_next, .ref o_row, .int o_heard, .ref o_heardOf, .ref o_heardBars, .ref o_heardPlays, .int o_hushWho, .int o_hushSum, .long o_seed, .ref o_isKept, .ref o_kept])), (o_now, .inl (cI, 32, .inl v224)), (o_kind, .inl (cI, 6, .inl o_kind_v)), (o_looks, .inl (cI, 6, .inl o_looks_v))] H := hP
          have hD : va_D A [(o_h, .inr (5, [.int o_players, .int o_bars, .ref o_price, .ref o_breath, .ref o_kind, .ref o_looks, .ref o_noise, .ref o_repeat, .ref o_now, .ref o_readPlayer, .ref o_readBar, .int o_readPlayers, .int o_readBars, .ref o_text, .int o_length, .int o_at, .int o_faultAt, .int o_acts, .int o_next, .ref o_row, .int o_heard, .ref o_heardOf, .ref o_heardBars, .ref o_heardPlays, .int o_hushWho, .int o_hushSum, .long o_seed, .ref o_isKept, .ref o_kept])), (o_now, .inl (cI, 32, .inl v224)), (o_kind, .inl (cI, 6, .inl o_kind_v)), (o_looks, .inl (cI, 6, .inl o_looks_v))] := hD
          have hl : lv_has ls 5 [(0, .ref o_h), (1, .int x0), (2, .int (16 * x0)), (3, .int r8), (4, .int (nI k224))] := hl
          refine lv_iload hx hb dX5_lean_224 (lv_at hl 4 rfl) ?_
          refine lv_aload_n hx hb dX5_lean_226 rfl (lv_at hl 0 rfl) ?_
          refine va_get (D := (dC, dI)) (ci := 5) (v := .int o_players) (C := RX5) (T := TX5) (N := 29) hx hb hts hinX5 hown hK hP 0 rfl rfl 0 (by decide) w1 (fun _ h9 => h9) rfl dX5_lean_227 ?_
          refine lv_icmp_ge (tgt := 301) hx hb dX5_lean_230 (by decide) (fun c_230 => absurd c_230 (hg_lo1 hk)) (fun c_230 => ?_)
          refine lv_aload_n hx hb dX5_lean_233 rfl (lv_at hl 0 rfl) ?_
          refine va_get (D := (dC, dI)) (ci := 5) (v := .ref o_now) (C := RX5) (T := TX5) (N := 29) hx hb hts hinX5 hown hK hP 0 rfl rfl 8 (by decide) w2 (fun _ h9 => h9) rfl dX5_lean_234 ?_
          refine lv_iload_n hx hb dX5_lean_237 rfl (lv_at hl 2 rfl) ?_
          refine lv_iload hx hb dX5_lean_238 (lv_at hl 4 rfl) ?_
          refine lv_iadd hx hb dX5_lean_240 ?_
          refine va_iald hx hb hK hP 1 0 rfl rfl (n := 32) (f := v224) (hg_in (n := ((16 * lv) + k224)) (N := 32) (nx_add (nx_mul (show (16 : Int32) = nI 16 from rfl) elv) rfl) (by omega) (by decide)) dX5_lean_241 ?_
          refine lv_iconst (v := 2) hx hb dX5_lean_242 (by decide) ?_
          refine lv_icmp_ne (tgt := 295) hx hb dX5_lean_243 (by decide) (fun c_243 => ?_) (fun c_243 => ?_)
          · have hw := hw.trans (if_neg c_243)
            refine lv_iinc (v := nI (k224 + 1)) (lv' := [(4, .int (nI (k224 + 1))), (0, .ref o_h), (1, .int x0), (2, .int (16 * x0)), (3, .int r8)]) hx hb dX5_lean_295 hl (k := 4) rfl (nI_1 k224) (by decide) rfl (fun ls hl => ?_)
            refine lv_goto (tgt := 224) hx hb dX5_lean_298 (by decide) ?_
            subst hw
            exact ih hJ224 _ _ _ hP hD hS (lv_sub hl [1, 2, 3, 4, 0] rfl)
          · have hw := hw.trans (if_pos c_243)
            refine lv_aload_n hx hb dX5_lean_246 rfl (lv_at hl 0 rfl) ?_
            refine va_get (D := (dC, dI)) (ci := 5) (v := .ref o_kind) (C := RX5) (T := TX5) (N := 29) hx hb hts hinX5 hown hK hP 0 rfl rfl 4 (by decide) w3 (fun _ h9 => h9) rfl dX5_lean_247 ?_
            refine lv_iload hx hb dX5_lean_250 (lv_at hl 4 rfl) ?_
            refine va_iald hx hb hK hP 2 0 rfl rfl (n := 6) (f := o_kind_v) (hg_in (n := k224) (N := 6) rfl (by omega) (by decide)) dX5_lean_252 ?_
            refine lv_iconst (v := 3) hx hb dX5_lean_253 (by decide) ?_
            refine lv_icmp_ne (tgt := 295) hx hb dX5_lean_254 (by decide) (fun c_254 => ?_) (fun c_254 => ?_)
            · have hw := hw.trans (if_neg c_254)
              refine lv_iinc (v := nI (k224 + 1)) (lv' := [(4, .int (nI (k224 + 1))), (0, .ref o_h), (1, .int x0), (2, .int (16 * x0)), (3, .int r8)]) hx hb dX5_lean_295 hl (k := 4) rfl (nI_1 k224) (by decide) rfl (fun ls hl => ?_)
              refine lv_goto (tgt := 224) hx hb dX5_lean_298 (by decide) ?_
              subst hw
              exact ih hJ224 _ _ _ hP hD hS (lv_sub hl [1, 2, 3, 4, 0] rfl)
            · have hw := hw.trans (if_pos c_254)
              refine lv_aload_n hx hb dX5_lean_257 rfl (lv_at hl 0 rfl) ?_
              refine lv_iload_n hx hb dX5_lean_258 rfl (lv_at hl 1 rfl) ?_
              refine lv_aload_n hx hb dX5_lean_259 rfl (lv_at hl 0 rfl) ?_
              refine va_get (D := (dC, dI)) (ci := 5) (v := .ref o_looks) (C := RX5) (T := TX5) (N := 29) hx hb hts hinX5 hown hK hP 0 rfl rfl 5 (by decide) w4 (fun _ h9 => h9) rfl dX5_lean_260 ?_
              refine lv_iload hx hb dX5_lean_263 (lv_at hl 4 rfl) ?_
              refine va_iald hx hb hK hP 3 0 rfl rfl (n := 6) (f := o_looks_v) (hg_in (n := k224) (N := 6) rfl (by omega) (by decide)) dX5_lean_265 ?_
              obtain ⟨r12, er12, hw⟩ := lxb_o hw
              refine hg_ci (va_runV (As := [.int x0, .int (o_looks_v (Int32.toNatClampNeg (nI k224)))]) (rest := []) ⟨hx, hb, hml, hown, hts⟩ (c_X5_plays l dC dI cI cZ cM _ o_h x0 (o_looks_v (Int32.toNatClampNeg (nI k224))) o_players o_bars o_price o_breath o_kind o_looks o_noise o_repeat o_now o_readPlayer o_readBar o_readPlayers o_readBars o_text o_length o_at o_faultAt o_acts o_next o_row o_heard o_heardOf o_heardBars o_heardPlays o_hushWho o_hushSum o_seed o_isKept o_kept v224 np enp (by omega) nb enb (by omega) lv elv (by omega) r12 er12) (cwV 2 hts gX5_lean_X5_plays rfl rfl rfl (by decide +kernel) ⟨Nat.le_of_ble_eq_true rfl, Nat.le_of_ble_eq_true rfl⟩) (hgPreV (C := RX5) (T := TX5) (N := 29) (ci := 5) (q0 := 0) hP hD hK hN [0, 1] rfl rfl rfl rfl) rfl rfl hl.1 rfl (lv_room (Nat.le_of_ble_eq_true rfl)) dX5_lean_266 ⟨Nat.zero_le _, Nat.zero_le _⟩) hP hD hS hA (wr := [(o_kind, .inl (cI, 6, .inl o_kind_v)), (o_looks, .inl (cI, 6, .inl o_looks_v))]) (wf := [(o_h, .inr (5, [.int o_players, .int o_bars, .ref o_price, .ref o_breath, .ref o_kind, .ref o_looks, .ref o_noise, .ref o_repeat, .ref o_now, .ref o_readPlayer, .ref o_readBar, .int o_readPlayers, .int o_readBars, .ref o_text, .int o_length, .int o_at, .int o_faultAt, .int o_acts, .int o_next, .ref o_row, .int o_heard, .ref o_heardOf, .ref o_heardBars, .ref o_heardPlays, .int o_hushWho, .int o_hushSum, .long o_seed, .ref o_isKept, .ref o_kept])), (o_now, .inl (cI, 32, .inl v224)), (o_kind, .inl (cI, 6, .inl o_kind_v)), (o_looks, .inl (cI, 6, .inl o_looks_v))]) [0, 1] [2, 3] [2, 3, 0, 1] rfl rfl rfl (by decide) rfl rfl (fun H locs hP hD hS => ?_)
              refine lv_if_eq (tgt := 295) hx hb dX5_lean_269 (by decide) (fun c_269 => ?_) (fun c_269 => ?_)
              · have hw := hw.trans (if_pos c_269)
                refine lv_iinc (v := nI (k224 + 1)) (lv' := [(4, .int (nI (k224 + 1))), (0, .ref o_h), (1, .int x0), (2, .int (16 * x0)), (3, .int r8)]) hx hb dX5_lean_295 hl (k := 4) rfl (nI_1 k224) (by decide) rfl (fun ls hl => ?_)
                refine lv_goto (tgt := 224) hx hb dX5_lean_298 (by decide) ?_
                subst hw
                exact ih hJ224 _ _ _ hP hD hS (lv_sub hl [1, 2, 3, 4, 0] rfl)
              · have hw := hw.trans (if_neg c_269)
                refine lv_aload_n hx hb dX5_lean_272 rfl (lv_at hl 0 rfl) ?_
                refine va_get (D := (dC, dI)) (ci := 5) (v := .ref o_now) (C := RX5) (T := TX5) (N := 29) hx hb hts hinX5 hown hK hP 0 rfl rfl 8 (by decide) w2 (fun _ h9 => h9) rfl dX5_lean_273 ?_
                refine lv_iload_n hx hb dX5_lean_276 rfl (lv_at hl 2 rfl) ?_
                refine lv_iload hx hb dX5_lean_277 (lv_at hl 4 rfl) ?_
                refine lv_iadd hx hb dX5_lean_279 ?_
                refine lv_iconst (v := 0) hx hb dX5_lean_280 (by decide) ?_
                refine va_iast hx hb hK hP hD hS 1 0 rfl rfl (n := 32) (f := v224) (hg_in (n := ((16 * lv) + k224)) (N := 32) (nx_add (nx_mul (show (16 : Int32) = nI 16 from rfl) elv) rfl) (by omega) (by decide)) dX5_lean_281 (fun H locs hP hD hS => ?_)
                have hP : va_P (dC, dI) vwCl [(o_h, .inr (5, [.int o_players, .int o_bars, .ref o_price, .ref o_breath, .ref o_kind, .ref o_looks, .ref o_noise, .ref o_repeat, .ref o_now, .ref o_readPlayer, .ref o_readBar, .int o_readPlayers, .int o_readBars, .ref o_text, .int o_length, .int o_at, .int o_faultAt, .int o_acts, .int o_next, .ref o_row, .int o_heard, .ref o_heardOf, .ref o_heardBars, .ref o_heardPlays, .int o_hushWho, .int o_hushSum, .long o_seed, .ref o_isKept, .ref o_kept])), (o_now, .inl (cI, 32, .inl (upd v224 (Int32.toNatClampNeg ((16 * x0) + nI k224)) 0))), (o_kind, .inl (cI, 6, .inl o_kind_v)), (o_looks, .inl (cI, 6, .inl o_looks_v))] H := hP
                have hD : va_D A [(o_h, .inr (5, [.int o_players, .int o_bars, .ref o_price, .ref o_breath, .ref o_kind, .ref o_looks, .ref o_noise, .ref o_repeat, .ref o_now, .ref o_readPlayer, .ref o_readBar, .int o_readPlayers, .int o_readBars, .ref o_text, .int o_length, .int o_at, .int o_faultAt, .int o_acts, .int o_next, .ref o_row, .int o_heard, .ref o_heardOf, .ref o_heardBars, .ref o_heardPlays, .int o_hushWho, .int o_hushSum, .long o_seed, .ref o_isKept, .ref o_kept])), (o_now, .inl (cI, 32, .inl (upd v224 (Int32.toNatClampNeg ((16 * x0) + nI k224)) 0))), (o_kind, .inl (cI, 6, .inl o_kind_v)), (o_looks, .inl (cI, 6, .inl o_looks_v))] := hD
                have hB13 : mB (upd v224 (Int32.toNatClampNeg ((16 * x0) + nI k224)) 0) := mB_upd (n := ((16 * lv) + k224)) hJ224 (nx_add (nx_mul (show (16 : Int32) = nI 16 from rfl) elv) rfl) (by omega) (fun q => absurd q (by omega))
                refine lv_aload_n hx hb dX5_lean_282 rfl (lv_at hl 0 rfl) ?_
                refine va_get (D := (dC, dI)) (ci := 5) (v := .ref o_now) (C := RX5) (T := TX5) (N := 29) hx hb hts hinX5 hown hK hP 0 rfl rfl 8 (by decide) w2 (fun _ h9 => h9) rfl dX5_lean_283 ?_
                refine lv_iload_n hx hb dX5_lean_286 rfl (lv_at hl 2 rfl) ?_
                refine lv_bipush (v := 6) hx hb dX5_lean_287 (by decide) ?_
                refine lv_iadd hx hb dX5_lean_289 ?_
                refine lv_iload hx hb dX5_lean_290 (lv_at hl 4 rfl) ?_
                refine lv_iadd hx hb dX5_lean_292 ?_
                refine lv_iconst (v := 2) hx hb dX5_lean_293 (by decide) ?_
                refine va_iast hx hb hK hP hD hS 1 0 rfl rfl (n := 32) (f := (upd v224 (Int32.toNatClampNeg ((16 * x0) + nI k224)) 0)) (hg_in (n := (((16 * lv) + 6) + k224)) (N := 32) (nx_add (nx_add (nx_mul (show (16 : Int32) = nI 16 from rfl) elv) (show (6 : Int32) = nI 6 from rfl)) rfl) (by omega) (by decide)) dX5_lean_294 (fun H locs hP hD hS => ?_)
                have hP : va_P (dC, dI) vwCl [(o_h, .inr (5, [.int o_players, .int o_bars, .ref o_price, .ref o_breath, .ref o_kind, .ref o_looks, .ref o_noise, .ref o_repeat, .ref o_now, .ref o_readPlayer, .ref o_readBar, .int o_readPlayers, .int o_readBars, .ref o_text, .int o_length, .int o_at, .int o_faultAt, .int o_acts, .int o_next, .ref o_row, .int o_heard, .ref o_heardOf, .ref o_heardBars, .ref o_heardPlays, .int o_hushWho, .int o_hushSum, .long o_seed, .ref o_isKept, .ref o_kept])), (o_now, .inl (cI, 32, .inl (upd (upd v224 (Int32.toNatClampNeg ((16 * x0) + nI k224)) 0) (Int32.toNatClampNeg (((16 * x0) + 6) + nI k224)) 2))), (o_kind, .inl (cI, 6, .inl o_kind_v)), (o_looks, .inl (cI, 6, .inl o_looks_v))] H := hP
                have hD : va_D A [(o_h, .inr (5, [.int o_players, .int o_bars, .ref o_price, .ref o_breath, .ref o_kind, .ref o_looks, .ref o_noise, .ref o_repeat, .ref o_now, .ref o_readPlayer, .ref o_readBar, .int o_readPlayers, .int o_readBars, .ref o_text, .int o_length, .int o_at, .int o_faultAt, .int o_acts, .int o_next, .ref o_row, .int o_heard, .ref o_heardOf, .ref o_heardBars, .ref o_heardPlays, .int o_hushWho, .int o_hushSum, .long o_seed, .ref o_isKept, .ref o_kept])), (o_now, .inl (cI, 32, .inl (upd (upd v224 (Int32.toNatClampNeg ((16 * x0) + nI k224)) 0) (Int32.toNatClampNeg (((16 * x0) + 6) + nI k224)) 2))), (o_kind, .inl (cI, 6, .inl o_kind_v)), (o_looks, .inl (cI, 6, .inl o_looks_v))] := hD
                have hB14 : mB (upd (upd v224 (Int32.toNatClampNeg ((16 * x0) + nI k224)) 0) (Int32.toNatClampNeg (((16 * x0) + 6) + nI k224)) 2) := mB_upd (n := (((16 * lv) + 6) + k224)) hB13 (nx_add (nx_add (nx_mul (show (16 : Int32) = nI 16 from rfl) elv) (show (6 : Int32) = nI 6 from rfl)) rfl) (by omega) (fun q => absurd q (by omega))
                refine lv_iinc (v := nI (k224 + 1)) (lv' := [(4, .int (nI (k224 + 1))), (0, .ref o_h), (1, .int x0), (2, .int (16 * x0)), (3, .int r8)]) hx hb dX5_lean_295 hl (k := 4) rfl (nI_1 k224) (by decide) rfl (fun ls hl => ?_)
                refine lv_goto (tgt := 224) hx hb dX5_lean_298 (by decide) ?_
                subst hw
                exact ih hB14 _ _ _ hP hD hS (lv_sub hl [1, 2, 3, 4, 0] rfl)
      · intro k157 hk v157 hJ157 hv w hw ih H locs ls hP hD hS hl
        have hw : w = b_X5_lean_157 x0 o_kind_v r8 k157 v157 := by rw [hw, hv]; rfl
        unfold b_X5_lean_157 at hw
        have hkb : k157 + 0 < np := hg_itn0 enp (by omega) hk
        have hP : va_P (dC, dI) vwCl [(o_h, .inr (5, [.int o_players, .int o_bars, .ref o_price, .ref o_breath, .ref o_kind, .ref o_looks, .ref o_noise, .ref o_repeat, .ref o_now, .ref o_readPlayer, .ref o_readBar, .int o_readPlayers, .int o_readBars, .ref o_text, .int o_length, .int o_at, .int o_faultAt, .int o_acts, .int o_next, .ref o_row, .int o_heard, .ref o_heardOf, .ref o_heardBars, .ref o_heardPlays, .int o_hushWho, .int o_hushSum, .long o_seed, .ref o_isKept, .ref o_kept])), (o_now, .inl (cI, 32, .inl v157)), (o_kind, .inl (cI, 6, .inl o_kind_v)), (o_looks, .inl (cI, 6, .inl o_looks_v))] H := hP
        have hD : va_D A [(o_h, .inr (5, [.int o_players, .int o_bars, .ref o_price, .ref o_breath, .ref o_kind, .ref o_looks, .ref o_noise, .ref o_repeat, .ref o_now, .ref o_readPlayer, .ref o_readBar, .int o_readPlayers, .int o_readBars, .ref o_text, .int o_length, .int o_at, .int o_faultAt, .int o_acts, .int o_next, .ref o_row, .int o_heard, .ref o_heardOf, .ref o_heardBars, .ref o_heardPlays, .int o_hushWho, .int o_hushSum, .long o_seed, .ref o_isKept, .ref o_kept])), (o_now, .inl (cI, 32, .inl v157)), (o_kind, .inl (cI, 6, .inl o_kind_v)), (o_looks, .inl (cI, 6, .inl o_looks_v))] := hD
        have hl : lv_has ls 5 [(0, .ref o_h), (1, .int x0), (2, .int (16 * x0)), (3, .int r8), (4, .int (nI k157))] := hl
        refine lv_iload hx hb dX5_lean_157 (lv_at hl 4 rfl) ?_
        refine lv_aload_n hx hb dX5_lean_159 rfl (lv_at hl 0 rfl) ?_
        refine va_get (D := (dC, dI)) (ci := 5) (v := .int o_players) (C := RX5) (T := TX5) (N := 29) hx hb hts hinX5 hown hK hP 0 rfl rfl 0 (by decide) w1 (fun _ h9 => h9) rfl dX5_lean_160 ?_
        refine lv_icmp_ge (tgt := 221) hx hb dX5_lean_163 (by decide) (fun c_163 => absurd c_163 (hg_lo1 hk)) (fun c_163 => ?_)
        refine lv_aload_n hx hb dX5_lean_166 rfl (lv_at hl 0 rfl) ?_
        refine va_get (D := (dC, dI)) (ci := 5) (v := .ref o_now) (C := RX5) (T := TX5) (N := 29) hx hb hts hinX5 hown hK hP 0 rfl rfl 8 (by decide) w2 (fun _ h9 => h9) rfl dX5_lean_167 ?_
        refine lv_iload_n hx hb dX5_lean_170 rfl (lv_at hl 2 rfl) ?_
        refine lv_iload hx hb dX5_lean_171 (lv_at hl 4 rfl) ?_
        refine lv_iadd hx hb dX5_lean_173 ?_
        refine lv_aload_n hx hb dX5_lean_174 rfl (lv_at hl 0 rfl) ?_
        refine va_get (D := (dC, dI)) (ci := 5) (v := .ref o_now) (C := RX5) (T := TX5) (N := 29) hx hb hts hinX5 hown hK hP 0 rfl rfl 8 (by decide) w2 (fun _ h9 => h9) rfl dX5_lean_175 ?_
        refine lv_iload_n hx hb dX5_lean_178 rfl (lv_at hl 2 rfl) ?_
        refine lv_iload hx hb dX5_lean_179 (lv_at hl 4 rfl) ?_
        refine lv_iadd hx hb dX5_lean_181 ?_
        refine va_iald hx hb hK hP 1 0 rfl rfl (n := 32) (f := v157) (hg_in (n := ((16 * lv) + k157)) (N := 32) (nx_add (nx_mul (show (16 : Int32) = nI 16 from rfl) elv) rfl) (by omega) (by decide)) dX5_lean_182 ?_
        obtain ⟨z9, ez9, hw⟩ := lxb_o hw
        refine hg_cut (D := (dC, dI)) (A0 := A) (H0 := s.heap) (ws := [(o_h, .inr (5, [.int o_players, .int o_bars, .ref o_price, .ref o_breath, .ref o_kind, .ref o_looks, .ref o_noise, .ref o_repeat, .ref o_now, .ref o_readPlayer, .ref o_readBar, .int o_readPlayers, .int o_readBars, .ref o_text, .int o_length, .int o_at, .int o_faultAt, .int o_acts, .int o_next, .ref o_row, .int o_heard, .ref o_heardOf, .ref o_heardBars, .ref o_heardPlays, .int o_hushWho, .int o_hushSum, .long o_seed, .ref o_isKept, .ref o_kept])), (o_now, .inl (cI, 32, .inl v157)), (o_kind, .inl (cI, 6, .inl o_kind_v)), (o_looks, .inl (cI, 6, .inl o_looks_v))]) (g := F0 m 214 ls [.int z9, .int ((16 * x0) + nI k157), .ref o_now]) ?_ (fun hJ => ?_)
        · intro H locs hP hD hS
          refine va_iast hx hb hK hP hD hS 1 0 rfl rfl (n := 32) (f := v157) (hg_in (n := ((16 * lv) + k157)) (N := 32) (nx_add (nx_mul (show (16 : Int32) = nI 16 from rfl) elv) rfl) (by omega) (by decide)) dX5_lean_214 (fun H locs hP hD hS => ?_)
          have hP : va_P (dC, dI) vwCl [(o_h, .inr (5, [.int o_players, .int o_bars, .ref o_price, .ref o_breath, .ref o_kind, .ref o_looks, .ref o_noise, .ref o_repeat, .ref o_now, .ref o_readPlayer, .ref o_readBar, .int o_readPlayers, .int o_readBars, .ref o_text, .int o_length, .int o_at, .int o_faultAt, .int o_acts, .int o_next, .ref o_row, .int o_heard, .ref o_heardOf, .ref o_heardBars, .ref o_heardPlays, .int o_hushWho, .int o_hushSum, .long o_seed, .ref o_isKept, .ref o_kept])), (o_now, .inl (cI, 32, .inl (upd v157 (Int32.toNatClampNeg ((16 * x0) + nI k157)) z9))), (o_kind, .inl (cI, 6, .inl o_kind_v)), (o_looks, .inl (cI, 6, .inl o_looks_v))] H := hP
          have hD : va_D A [(o_h, .inr (5, [.int o_players, .int o_bars, .ref o_price, .ref o_breath, .ref o_kind, .ref o_looks, .ref o_noise, .ref o_repeat, .ref o_now, .ref o_readPlayer, .ref o_readBar, .int o_readPlayers, .int o_readBars, .ref o_text, .int o_length, .int o_at, .int o_faultAt, .int o_acts, .int o_next, .ref o_row, .int o_heard, .ref o_heardOf, .ref o_heardBars, .ref o_heardPlays, .int o_hushWho, .int o_hushSum, .long o_seed, .ref o_isKept, .ref o_kept])), (o_now, .inl (cI, 32, .inl (upd v157 (Int32.toNatClampNeg ((16 * x0) + nI k157)) z9))), (o_kind, .inl (cI, 6, .inl o_kind_v)), (o_looks, .inl (cI, 6, .inl o_looks_v))] := hD
          have hB10 : mB (upd v157 (Int32.toNatClampNeg ((16 * x0) + nI k157)) z9) := mB_upd (n := ((16 * lv) + k157)) hJ157 (nx_add (nx_mul (show (16 : Int32) = nI 16 from rfl) elv) rfl) (by omega) (fun q => absurd q (by omega))
          refine lv_iinc (v := nI (k157 + 1)) (lv' := [(4, .int (nI (k157 + 1))), (0, .ref o_h), (1, .int x0), (2, .int (16 * x0)), (3, .int r8)]) hx hb dX5_lean_215 hl (k := 4) rfl (nI_1 k157) (by decide) rfl (fun ls hl => ?_)
          refine lv_goto (tgt := 157) hx hb dX5_lean_218 (by decide) ?_
          subst hw
          exact ih hB10 _ _ _ hP hD hS (lv_sub hl [1, 2, 3, 4, 0] rfl)
        · refine lv_if_ne (tgt := 205) hx hb dX5_lean_183 (by decide) (fun c_183 => ?_) (fun c_183 => ?_)
          · have ez9 := ez9.trans (if_neg c_183)
            refine lv_aload_n hx hb dX5_lean_205 rfl (lv_at hl 0 rfl) ?_
            refine va_get (D := (dC, dI)) (ci := 5) (v := .ref o_now) (C := RX5) (T := TX5) (N := 29) hx hb hts hinX5 hown hK hP 0 rfl rfl 8 (by decide) w2 (fun _ h9 => h9) rfl dX5_lean_206 ?_
            refine lv_iload_n hx hb dX5_lean_209 rfl (lv_at hl 2 rfl) ?_
            refine lv_iload hx hb dX5_lean_210 (lv_at hl 4 rfl) ?_
            refine lv_iadd hx hb dX5_lean_212 ?_
            refine va_iald hx hb hK hP 1 0 rfl rfl (n := 32) (f := v157) (hg_in (n := ((16 * lv) + k157)) (N := 32) (nx_add (nx_mul (show (16 : Int32) = nI 16 from rfl) elv) rfl) (by omega) (by decide)) dX5_lean_213 ?_
            subst ez9
            exact hJ _ _ hP hD hS
          · have ez9 := ez9.trans (if_pos c_183)
            refine lv_aload_n hx hb dX5_lean_186 rfl (lv_at hl 0 rfl) ?_
            refine va_get (D := (dC, dI)) (ci := 5) (v := .ref o_kind) (C := RX5) (T := TX5) (N := 29) hx hb hts hinX5 hown hK hP 0 rfl rfl 4 (by decide) w3 (fun _ h9 => h9) rfl dX5_lean_187 ?_
            refine lv_iload hx hb dX5_lean_190 (lv_at hl 4 rfl) ?_
            refine va_iald hx hb hK hP 2 0 rfl rfl (n := 6) (f := o_kind_v) (hg_in (n := k157) (N := 6) rfl (by omega) (by decide)) dX5_lean_192 ?_
            refine lv_iconst (v := 2) hx hb dX5_lean_193 (by decide) ?_
            refine lv_icmp_ne (tgt := 205) hx hb dX5_lean_194 (by decide) (fun c_194 => ?_) (fun c_194 => ?_)
            · have ez9 := ez9.trans (if_neg c_194)
              refine lv_aload_n hx hb dX5_lean_205 rfl (lv_at hl 0 rfl) ?_
              refine va_get (D := (dC, dI)) (ci := 5) (v := .ref o_now) (C := RX5) (T := TX5) (N := 29) hx hb hts hinX5 hown hK hP 0 rfl rfl 8 (by decide) w2 (fun _ h9 => h9) rfl dX5_lean_206 ?_
              refine lv_iload_n hx hb dX5_lean_209 rfl (lv_at hl 2 rfl) ?_
              refine lv_iload hx hb dX5_lean_210 (lv_at hl 4 rfl) ?_
              refine lv_iadd hx hb dX5_lean_212 ?_
              refine va_iald hx hb hK hP 1 0 rfl rfl (n := 32) (f := v157) (hg_in (n := ((16 * lv) + k157)) (N := 32) (nx_add (nx_mul (show (16 : Int32) = nI 16 from rfl) elv) rfl) (by omega) (by decide)) dX5_lean_213 ?_
              subst ez9
              exact hJ _ _ hP hD hS
            · have ez9 := ez9.trans (if_pos c_194)
              refine lv_iload_n hx hb dX5_lean_197 rfl (lv_at hl 3 rfl) ?_
              refine lv_if_ne (tgt := 205) hx hb dX5_lean_198 (by decide) (fun c_198 => ?_) (fun c_198 => ?_)
              · have ez9 := ez9.trans (if_neg c_198)
                refine lv_aload_n hx hb dX5_lean_205 rfl (lv_at hl 0 rfl) ?_
                refine va_get (D := (dC, dI)) (ci := 5) (v := .ref o_now) (C := RX5) (T := TX5) (N := 29) hx hb hts hinX5 hown hK hP 0 rfl rfl 8 (by decide) w2 (fun _ h9 => h9) rfl dX5_lean_206 ?_
                refine lv_iload_n hx hb dX5_lean_209 rfl (lv_at hl 2 rfl) ?_
                refine lv_iload hx hb dX5_lean_210 (lv_at hl 4 rfl) ?_
                refine lv_iadd hx hb dX5_lean_212 ?_
                refine va_iald hx hb hK hP 1 0 rfl rfl (n := 32) (f := v157) (hg_in (n := ((16 * lv) + k157)) (N := 32) (nx_add (nx_mul (show (16 : Int32) = nI 16 from rfl) elv) rfl) (by omega) (by decide)) dX5_lean_213 ?_
                subst ez9
                exact hJ _ _ hP hD hS
              · have ez9 := ez9.trans (if_pos c_198)
                refine lv_iconst (v := 2) hx hb dX5_lean_201 (by decide) ?_
                refine lv_goto (tgt := 214) hx hb dX5_lean_202 (by decide) ?_
                subst ez9
                exact hJ _ _ hP hD hS
    · intro k106 hk v106 hv w hw ih H locs ls hP hD hS hl
      have hw : w = b_X5_lean_106 x0 o_kind_v r6 k106 v106 := by rw [hw, hv]; rfl
      unfold b_X5_lean_106 at hw
      have hkb : k106 + 0 < np := hg_itn0 enp (by omega) hk
      have hP : va_P (dC, dI) vwCl [(o_h, .inr (5, [.int o_players, .int o_bars, .ref o_price, .ref o_breath, .ref o_kind, .ref o_looks, .ref o_noise, .ref o_repeat, .ref o_now, .ref o_readPlayer, .ref o_readBar, .int o_readPlayers, .int o_readBars, .ref o_text, .int o_length, .int o_at, .int o_faultAt, .int o_acts, .int o_next, .ref o_row, .int o_heard, .ref o_heardOf, .ref o_heardBars, .ref o_heardPlays, .int o_hushWho, .int o_hushSum, .long o_seed, .ref o_isKept, .ref o_kept])), (o_now, .inl (cI, 32, .inl r6)), (o_kind, .inl (cI, 6, .inl o_kind_v)), (o_looks, .inl (cI, 6, .inl o_looks_v))] H := hP
      have hD : va_D A [(o_h, .inr (5, [.int o_players, .int o_bars, .ref o_price, .ref o_breath, .ref o_kind, .ref o_looks, .ref o_noise, .ref o_repeat, .ref o_now, .ref o_readPlayer, .ref o_readBar, .int o_readPlayers, .int o_readBars, .ref o_text, .int o_length, .int o_at, .int o_faultAt, .int o_acts, .int o_next, .ref o_row, .int o_heard, .ref o_heardOf, .ref o_heardBars, .ref o_heardPlays, .int o_hushWho, .int o_hushSum, .long o_seed, .ref o_isKept, .ref o_kept])), (o_now, .inl (cI, 32, .inl r6)), (o_kind, .inl (cI, 6, .inl o_kind_v)), (o_looks, .inl (cI, 6, .inl o_looks_v))] := hD
      have hl : lv_has ls 5 [(0, .ref o_h), (1, .int x0), (2, .int (16 * x0)), (3, .int v106), (4, .int (nI k106))] := hl
      refine lv_iload hx hb dX5_lean_106 (lv_at hl 4 rfl) ?_
      refine lv_aload_n hx hb dX5_lean_108 rfl (lv_at hl 0 rfl) ?_
      refine va_get (D := (dC, dI)) (ci := 5) (v := .int o_players) (C := RX5) (T := TX5) (N := 29) hx hb hts hinX5 hown hK hP 0 rfl rfl 0 (by decide) w1 (fun _ h9 => h9) rfl dX5_lean_109 ?_
      refine lv_icmp_ge (tgt := 154) hx hb dX5_lean_112 (by decide) (fun c_112 => absurd c_112 (hg_lo1 hk)) (fun c_112 => ?_)
      refine lv_iload_n hx hb dX5_lean_115 rfl (lv_at hl 3 rfl) ?_
      obtain ⟨z7, ez7, hw⟩ := lxb_o hw
      refine hg_cut (D := (dC, dI)) (A0 := A) (H0 := s.heap) (ws := [(o_h, .inr (5, [.int o_players, .int o_bars, .ref o_price, .ref o_breath, .ref o_kind, .ref o_looks, .ref o_noise, .ref o_repeat, .ref o_now, .ref o_readPlayer, .ref o_readBar, .int o_readPlayers, .int o_readBars, .ref o_text, .int o_length, .int o_at, .int o_faultAt, .int o_acts, .int o_next, .ref o_row, .int o_heard, .ref o_heardOf, .ref o_heardBars, .ref o_heardPlays, .int o_hushWho, .int o_hushSum, .long o_seed, .ref o_isKept, .ref o_kept])), (o_now, .inl (cI, 32, .inl r6)), (o_kind, .inl (cI, 6, .inl o_kind_v)), (o_looks, .inl (cI, 6, .inl o_looks_v))]) (g := F0 m 147 ls [.int z7]) ?_ (fun hJ => ?_)
      · intro H locs hP hD hS
        refine lv_istore_n (lv' := [(3, .int z7), (0, .ref o_h), (1, .int x0), (2, .int (16 * x0)), (4, .int (nI k106))]) hx hb dX5_lean_147 rfl hl (by decide) rfl (fun ls hl => ?_)
        refine lv_iinc (v := nI (k106 + 1)) (lv' := [(4, .int (nI (k106 + 1))), (3, .int z7), (0, .ref o_h), (1, .int x0), (2, .int (16 * x0))]) hx hb dX5_lean_148 hl (k := 4) rfl (nI_1 k106) (by decide) rfl (fun ls hl => ?_)
        refine lv_goto (tgt := 106) hx hb dX5_lean_151 (by decide) ?_
        subst hw
        exact ih _ _ _ hP hD hS (lv_sub hl [2, 3, 4, 1, 0] rfl)
      · refine lv_if_ne (tgt := 142) hx hb dX5_lean_116 (by decide) (fun c_116 => ?_) (fun c_116 => ?_)
        · have ez7 := ez7.trans (if_neg c_116)
          refine lv_iconst (v := 1) hx hb dX5_lean_142 (by decide) ?_
          refine lv_goto (tgt := 147) hx hb dX5_lean_143 (by decide) ?_
          subst ez7
          exact hJ _ _ hP hD hS
        · have ez7 := ez7.trans (if_pos c_116)
          refine lv_aload_n hx hb dX5_lean_119 rfl (lv_at hl 0 rfl) ?_
          refine va_get (D := (dC, dI)) (ci := 5) (v := .ref o_now) (C := RX5) (T := TX5) (N := 29) hx hb hts hinX5 hown hK hP 0 rfl rfl 8 (by decide) w2 (fun _ h9 => h9) rfl dX5_lean_120 ?_
          refine lv_iload_n hx hb dX5_lean_123 rfl (lv_at hl 2 rfl) ?_
          refine lv_iload hx hb dX5_lean_124 (lv_at hl 4 rfl) ?_
          refine lv_iadd hx hb dX5_lean_126 ?_
          refine va_iald hx hb hK hP 1 0 rfl rfl (n := 32) (f := r6) (hg_in (n := ((16 * lv) + k106)) (N := 32) (nx_add (nx_mul (show (16 : Int32) = nI 16 from rfl) elv) rfl) (by omega) (by decide)) dX5_lean_127 ?_
          refine lv_if_ne (tgt := 146) hx hb dX5_lean_128 (by decide) (fun c_128 => ?_) (fun c_128 => ?_)
          · have ez7 := ez7.trans (if_neg c_128)
            refine lv_iconst (v := 0) hx hb dX5_lean_146 (by decide) ?_
            subst ez7
            exact hJ _ _ hP hD hS
          · have ez7 := ez7.trans (if_pos c_128)
            refine lv_aload_n hx hb dX5_lean_131 rfl (lv_at hl 0 rfl) ?_
            refine va_get (D := (dC, dI)) (ci := 5) (v := .ref o_kind) (C := RX5) (T := TX5) (N := 29) hx hb hts hinX5 hown hK hP 0 rfl rfl 4 (by decide) w3 (fun _ h9 => h9) rfl dX5_lean_132 ?_
            refine lv_iload hx hb dX5_lean_135 (lv_at hl 4 rfl) ?_
            refine va_iald hx hb hK hP 2 0 rfl rfl (n := 6) (f := o_kind_v) (hg_in (n := k106) (N := 6) rfl (by omega) (by decide)) dX5_lean_137 ?_
            refine lv_iconst (v := 2) hx hb dX5_lean_138 (by decide) ?_
            refine lv_icmp_eq (tgt := 146) hx hb dX5_lean_139 (by decide) (fun c_139 => ?_) (fun c_139 => ?_)
            · have ez7 := ez7.trans (if_pos c_139)
              refine lv_iconst (v := 0) hx hb dX5_lean_146 (by decide) ?_
              subst ez7
              exact hJ _ _ hP hD hS
            · have ez7 := ez7.trans (if_neg c_139)
              refine lv_iconst (v := 1) hx hb dX5_lean_142 (by decide) ?_
              refine lv_goto (tgt := 147) hx hb dX5_lean_143 (by decide) ?_
              subst ez7
              exact hJ _ _ hP hD hS
  · intro k7 hk v7 hJ7 hv w hw ih H locs ls hP hD hS hl
    have hw : w = b_X5_lean_7 x0 o_players o_kind_v o_looks_v k7 v7 := by rw [hw, hv]; rfl
    unfold b_X5_lean_7 at hw
    have hkb : k7 + 0 < np := hg_itn0 enp (by omega) hk
    have hP : va_P (dC, dI) vwCl [(o_h, .inr (5, [.int o_players, .int o_bars, .ref o_price, .ref o_breath, .ref o_kind, .ref o_looks, .ref o_noise, .ref o_repeat, .ref o_now, .ref o_readPlayer, .ref o_readBar, .int o_readPlayers, .int o_readBars, .ref o_text, .int o_length, .int o_at, .int o_faultAt, .int o_acts, .int o_next, .ref o_row, .int o_heard, .ref o_heardOf, .ref o_heardBars, .ref o_heardPlays, .int o_hushWho, .int o_hushSum, .long o_seed, .ref o_isKept, .ref o_kept])), (o_now, .inl (cI, 32, .inl v7)), (o_kind, .inl (cI, 6, .inl o_kind_v)), (o_looks, .inl (cI, 6, .inl o_looks_v))] H := hP
    have hD : va_D A [(o_h, .inr (5, [.int o_players, .int o_bars, .ref o_price, .ref o_breath, .ref o_kind, .ref o_looks, .ref o_noise, .ref o_repeat, .ref o_now, .ref o_readPlayer, .ref o_readBar, .int o_readPlayers, .int o_readBars, .ref o_text, .int o_length, .int o_at, .int o_faultAt, .int o_acts, .int o_next, .ref o_row, .int o_heard, .ref o_heardOf, .ref o_heardBars, .ref o_heardPlays, .int o_hushWho, .int o_hushSum, .long o_seed, .ref o_isKept, .ref o_kept])), (o_now, .inl (cI, 32, .inl v7)), (o_kind, .inl (cI, 6, .inl o_kind_v)), (o_looks, .inl (cI, 6, .inl o_looks_v))] := hD
    have hl : lv_has ls 5 [(0, .ref o_h), (1, .int x0), (2, .int (16 * x0)), (3, .int (nI k7))] := hl
    refine lv_iload_n hx hb dX5_lean_7 rfl (lv_at hl 3 rfl) ?_
    refine lv_aload_n hx hb dX5_lean_8 rfl (lv_at hl 0 rfl) ?_
    refine va_get (D := (dC, dI)) (ci := 5) (v := .int o_players) (C := RX5) (T := TX5) (N := 29) hx hb hts hinX5 hown hK hP 0 rfl rfl 0 (by decide) w1 (fun _ h9 => h9) rfl dX5_lean_9 ?_
    refine lv_icmp_ge (tgt := 101) hx hb dX5_lean_12 (by decide) (fun c_12 => absurd c_12 (hg_lo1 hk)) (fun c_12 => ?_)
    refine lv_aload_n hx hb dX5_lean_15 rfl (lv_at hl 0 rfl) ?_
    refine va_get (D := (dC, dI)) (ci := 5) (v := .ref o_now) (C := RX5) (T := TX5) (N := 29) hx hb hts hinX5 hown hK hP 0 rfl rfl 8 (by decide) w2 (fun _ h9 => h9) rfl dX5_lean_16 ?_
    refine lv_iload_n hx hb dX5_lean_19 rfl (lv_at hl 2 rfl) ?_
    refine lv_iload_n hx hb dX5_lean_20 rfl (lv_at hl 3 rfl) ?_
    refine lv_iadd hx hb dX5_lean_21 ?_
    refine va_iald hx hb hK hP 1 0 rfl rfl (n := 32) (f := v7) (hg_in (n := ((16 * lv) + k7)) (N := 32) (nx_add (nx_mul (show (16 : Int32) = nI 16 from rfl) elv) rfl) (by omega) (by decide)) dX5_lean_22 ?_
    obtain ⟨z1, ez1, hw⟩ := lxb_o hw
    refine hg_cut (D := (dC, dI)) (A0 := A) (H0 := s.heap) (ws := [(o_h, .inr (5, [.int o_players, .int o_bars, .ref o_price, .ref o_breath, .ref o_kind, .ref o_looks, .ref o_noise, .ref o_repeat, .ref o_now, .ref o_readPlayer, .ref o_readBar, .int o_readPlayers, .int o_readBars, .ref o_text, .int o_length, .int o_at, .int o_faultAt, .int o_acts, .int o_next, .ref o_row, .int o_heard, .ref o_heardOf, .ref o_heardBars, .ref o_heardPlays, .int o_hushWho, .int o_hushSum, .long o_seed, .ref o_isKept, .ref o_kept])), (o_now, .inl (cI, 32, .inl v7)), (o_kind, .inl (cI, 6, .inl o_kind_v)), (o_looks, .inl (cI, 6, .inl o_looks_v))]) (g := F0 m 68 ls [.int z1]) ?_ (fun hJ => ?_)
    · intro H locs hP hD hS
      refine lv_istore (lv' := [(4, .int z1), (0, .ref o_h), (1, .int x0), (2, .int (16 * x0)), (3, .int (nI k7))]) hx hb dX5_lean_68 hl (by decide) rfl (fun ls hl => ?_)
      refine lv_aload_n hx hb dX5_lean_70 rfl (lv_at hl 1 rfl) ?_
      refine va_get (D := (dC, dI)) (ci := 5) (v := .ref o_now) (C := RX5) (T := TX5) (N := 29) hx hb hts hinX5 hown hK hP 0 rfl rfl 8 (by decide) w2 (fun _ h9 => h9) rfl dX5_lean_71 ?_
      refine lv_iload_n hx hb dX5_lean_74 rfl (lv_at hl 3 rfl) ?_
      refine lv_iload_n hx hb dX5_lean_75 rfl (lv_at hl 4 rfl) ?_
      refine lv_iadd hx hb dX5_lean_76 ?_
      refine lv_iload hx hb dX5_lean_77 (lv_at hl 0 rfl) ?_
      obtain ⟨z4, ez4, hw⟩ := lxb_o hw
      refine hg_cut (D := (dC, dI)) (A0 := A) (H0 := s.heap) (ws := [(o_h, .inr (5, [.int o_players, .int o_bars, .ref o_price, .ref o_breath, .ref o_kind, .ref o_looks, .ref o_noise, .ref o_repeat, .ref o_now, .ref o_readPlayer, .ref o_readBar, .int o_readPlayers, .int o_readBars, .ref o_text, .int o_length, .int o_at, .int o_faultAt, .int o_acts, .int o_next, .ref o_row, .int o_heard, .ref o_heardOf, .ref o_heardBars, .ref o_heardPlays, .int o_hushWho, .int o_hushSum, .long o_seed, .ref o_isKept, .ref o_kept])), (o_now, .inl (cI, 32, .inl v7)), (o_kind, .inl (cI, 6, .inl o_kind_v)), (o_looks, .inl (cI, 6, .inl o_looks_v))]) (g := F0 m 94 ls [.int z4, .int ((16 * x0) + nI k7), .ref o_now]) ?_ (fun hJ => ?_)
      · intro H locs hP hD hS
        refine va_iast hx hb hK hP hD hS 1 0 rfl rfl (n := 32) (f := v7) (hg_in (n := ((16 * lv) + k7)) (N := 32) (nx_add (nx_mul (show (16 : Int32) = nI 16 from rfl) elv) rfl) (by omega) (by decide)) dX5_lean_94 (fun H locs hP hD hS => ?_)
        have hP : va_P (dC, dI) vwCl [(o_h, .inr (5, [.int o_players, .int o_bars, .ref o_price, .ref o_breath, .ref o_kind, .ref o_looks, .ref o_noise, .ref o_repeat, .ref o_now, .ref o_readPlayer, .ref o_readBar, .int o_readPlayers, .int o_readBars, .ref o_text, .int o_length, .int o_at, .int o_faultAt, .int o_acts, .int o_next, .ref o_row, .int o_heard, .ref o_heardOf, .ref o_heardBars, .ref o_heardPlays, .int o_hushWho, .int o_hushSum, .long o_seed, .ref o_isKept, .ref o_kept])), (o_now, .inl (cI, 32, .inl (upd v7 (Int32.toNatClampNeg ((16 * x0) + nI k7)) z4))), (o_kind, .inl (cI, 6, .inl o_kind_v)), (o_looks, .inl (cI, 6, .inl o_looks_v))] H := hP
        have hD : va_D A [(o_h, .inr (5, [.int o_players, .int o_bars, .ref o_price, .ref o_breath, .ref o_kind, .ref o_looks, .ref o_noise, .ref o_repeat, .ref o_now, .ref o_readPlayer, .ref o_readBar, .int o_readPlayers, .int o_readBars, .ref o_text, .int o_length, .int o_at, .int o_faultAt, .int o_acts, .int o_next, .ref o_row, .int o_heard, .ref o_heardOf, .ref o_heardBars, .ref o_heardPlays, .int o_hushWho, .int o_hushSum, .long o_seed, .ref o_isKept, .ref o_kept])), (o_now, .inl (cI, 32, .inl (upd v7 (Int32.toNatClampNeg ((16 * x0) + nI k7)) z4))), (o_kind, .inl (cI, 6, .inl o_kind_v)), (o_looks, .inl (cI, 6, .inl o_looks_v))] := hD
        have hB5 : mB (upd v7 (Int32.toNatClampNeg ((16 * x0) + nI k7)) z4) := mB_upd (n := ((16 * lv) + k7)) hJ7 (nx_add (nx_mul (show (16 : Int32) = nI 16 from rfl) elv) rfl) (by omega) (fun q => absurd q (by omega))
        refine lv_iinc (v := nI (k7 + 1)) (lv' := [(3, .int (nI (k7 + 1))), (4, .int z1), (0, .ref o_h), (1, .int x0), (2, .int (16 * x0))]) hx hb dX5_lean_95 hl (k := 4) rfl (nI_1 k7) (by decide) rfl (fun ls hl => ?_)
        refine lv_goto (tgt := 7) hx hb dX5_lean_98 (by decide) ?_
        subst hw
        exact ih hB5 _ _ _ hP hD hS (lv_sub hl [2, 3, 4, 0] rfl)
      · refine lv_if_eq (tgt := 86) hx hb dX5_lean_79 (by decide) (fun c_79 => ?_) (fun c_79 => ?_)
        · have ez4 := ez4.trans (if_pos c_79)
          refine lv_aload_n hx hb dX5_lean_86 rfl (lv_at hl 1 rfl) ?_
          refine va_get (D := (dC, dI)) (ci := 5) (v := .ref o_now) (C := RX5) (T := TX5) (N := 29) hx hb hts hinX5 hown hK hP 0 rfl rfl 8 (by decide) w2 (fun _ h9 => h9) rfl dX5_lean_87 ?_
          refine lv_iload_n hx hb dX5_lean_90 rfl (lv_at hl 3 rfl) ?_
          refine lv_iload_n hx hb dX5_lean_91 rfl (lv_at hl 4 rfl) ?_
          refine lv_iadd hx hb dX5_lean_92 ?_
          refine va_iald hx hb hK hP 1 0 rfl rfl (n := 32) (f := v7) (hg_in (n := ((16 * lv) + k7)) (N := 32) (nx_add (nx_mul (show (16 : Int32) = nI 16 from rfl) elv) rfl) (by omega) (by decide)) dX5_lean_93 ?_
          subst ez4
          exact hJ _ _ hP hD hS
        · have ez4 := ez4.trans (if_neg c_79)
          refine lv_iconst (v := 2) hx hb dX5_lean_82 (by decide) ?_
          refine lv_goto (tgt := 94) hx hb dX5_lean_83 (by decide) ?_
          subst ez4
          exact hJ _ _ hP hD hS
    · refine lv_if_ne (tgt := 67) hx hb dX5_lean_23 (by decide) (fun c_23 => ?_) (fun c_23 => ?_)
      · have ez1 := ez1.trans (if_neg c_23)
        refine lv_iconst (v := 0) hx hb dX5_lean_67 (by decide) ?_
        subst ez1
        exact hJ _ _ hP hD hS
      · have ez1 := ez1.trans (if_pos c_23)
        refine lv_aload_n hx hb dX5_lean_26 rfl (lv_at hl 0 rfl) ?_
        refine va_get (D := (dC, dI)) (ci := 5) (v := .ref o_kind) (C := RX5) (T := TX5) (N := 29) hx hb hts hinX5 hown hK hP 0 rfl rfl 4 (by decide) w3 (fun _ h9 => h9) rfl dX5_lean_27 ?_
        refine lv_iload_n hx hb dX5_lean_30 rfl (lv_at hl 3 rfl) ?_
        refine va_iald hx hb hK hP 2 0 rfl rfl (n := 6) (f := o_kind_v) (hg_in (n := k7) (N := 6) rfl (by omega) (by decide)) dX5_lean_31 ?_
        refine lv_iconst (v := 1) hx hb dX5_lean_32 (by decide) ?_
        refine lv_icmp_ne (tgt := 67) hx hb dX5_lean_33 (by decide) (fun c_33 => ?_) (fun c_33 => ?_)
        · have ez1 := ez1.trans (if_neg c_33)
          refine lv_iconst (v := 0) hx hb dX5_lean_67 (by decide) ?_
          subst ez1
          exact hJ _ _ hP hD hS
        · have ez1 := ez1.trans (if_pos c_33)
          refine lv_aload_n hx hb dX5_lean_36 rfl (lv_at hl 0 rfl) ?_
          refine lv_aload_n hx hb dX5_lean_37 rfl (lv_at hl 0 rfl) ?_
          refine va_get (D := (dC, dI)) (ci := 5) (v := .ref o_looks) (C := RX5) (T := TX5) (N := 29) hx hb hts hinX5 hown hK hP 0 rfl rfl 5 (by decide) w4 (fun _ h9 => h9) rfl dX5_lean_38 ?_
          refine lv_iload_n hx hb dX5_lean_41 rfl (lv_at hl 3 rfl) ?_
          refine va_iald hx hb hK hP 3 0 rfl rfl (n := 6) (f := o_looks_v) (hg_in (n := k7) (N := 6) rfl (by omega) (by decide)) dX5_lean_42 ?_
          obtain ⟨r2, er2, ez1⟩ := lxb_o ez1
          refine hg_ci (va_runV (As := [.int (o_looks_v (Int32.toNatClampNeg (nI k7)))]) (rest := []) ⟨hx, hb, hml, hown, hts⟩ (c_X5_isPlayer l dC dI cI cZ cM _ o_h (o_looks_v (Int32.toNatClampNeg (nI k7))) o_players o_bars o_price o_breath o_kind o_looks o_noise o_repeat o_now o_readPlayer o_readBar o_readPlayers o_readBars o_text o_length o_at o_faultAt o_acts o_next o_row o_heard o_heardOf o_heardBars o_heardPlays o_hushWho o_hushSum o_seed o_isKept o_kept np enp (by omega) nb enb (by omega) r2 er2) (cwV 1 hts gX5_lean_X5_isPlayer rfl rfl rfl (by decide +kernel) ⟨Nat.le_of_ble_eq_true rfl, Nat.le_of_ble_eq_true rfl⟩) (hgPreV (C := RX5) (T := TX5) (N := 29) (ci := 5) (q0 := 0) hP hD hK hN [0] rfl rfl rfl rfl) rfl rfl hl.1 rfl (lv_room (Nat.le_of_ble_eq_true rfl)) dX5_lean_43 ⟨Nat.zero_le _, Nat.zero_le _⟩) hP hD hS hA (wr := [(o_now, .inl (cI, 32, .inl v7)), (o_kind, .inl (cI, 6, .inl o_kind_v)), (o_looks, .inl (cI, 6, .inl o_looks_v))]) (wf := [(o_h, .inr (5, [.int o_players, .int o_bars, .ref o_price, .ref o_breath, .ref o_kind, .ref o_looks, .ref o_noise, .ref o_repeat, .ref o_now, .ref o_readPlayer, .ref o_readBar, .int o_readPlayers, .int o_readBars, .ref o_text, .int o_length, .int o_at, .int o_faultAt, .int o_acts, .int o_next, .ref o_row, .int o_heard, .ref o_heardOf, .ref o_heardBars, .ref o_heardPlays, .int o_hushWho, .int o_hushSum, .long o_seed, .ref o_isKept, .ref o_kept])), (o_now, .inl (cI, 32, .inl v7)), (o_kind, .inl (cI, 6, .inl o_kind_v)), (o_looks, .inl (cI, 6, .inl o_looks_v))]) [0] [1, 2, 3] [3, 0, 1, 2] rfl rfl rfl (by decide) rfl rfl (fun H locs hP hD hS => ?_)
          refine lv_if_eq (tgt := 67) hx hb dX5_lean_46 (by decide) (fun c_46 => ?_) (fun c_46 => ?_)
          · have ez1 := ez1.trans (if_pos c_46)
            refine lv_iconst (v := 0) hx hb dX5_lean_67 (by decide) ?_
            subst ez1
            exact hJ _ _ hP hD hS
          · have ez1 := ez1.trans (if_neg c_46)
            refine lv_aload_n hx hb dX5_lean_49 rfl (lv_at hl 0 rfl) ?_
            refine lv_iload_n hx hb dX5_lean_50 rfl (lv_at hl 1 rfl) ?_
            refine lv_aload_n hx hb dX5_lean_51 rfl (lv_at hl 0 rfl) ?_
            refine va_get (D := (dC, dI)) (ci := 5) (v := .ref o_looks) (C := RX5) (T := TX5) (N := 29) hx hb hts hinX5 hown hK hP 0 rfl rfl 5 (by decide) w4 (fun _ h9 => h9) rfl dX5_lean_52 ?_
            refine lv_iload_n hx hb dX5_lean_55 rfl (lv_at hl 3 rfl) ?_
            refine va_iald hx hb hK hP 3 0 rfl rfl (n := 6) (f := o_looks_v) (hg_in (n := k7) (N := 6) rfl (by omega) (by decide)) dX5_lean_56 ?_
            obtain ⟨r3, er3, ez1⟩ := lxb_o ez1
            refine hg_ci (va_runV (As := [.int x0, .int (o_looks_v (Int32.toNatClampNeg (nI k7)))]) (rest := []) ⟨hx, hb, hml, hown, hts⟩ (c_X5_plays l dC dI cI cZ cM _ o_h x0 (o_looks_v (Int32.toNatClampNeg (nI k7))) o_players o_bars o_price o_breath o_kind o_looks o_noise o_repeat o_now o_readPlayer o_readBar o_readPlayers o_readBars o_text o_length o_at o_faultAt o_acts o_next o_row o_heard o_heardOf o_heardBars o_heardPlays o_hushWho o_hushSum o_seed o_isKept o_kept v7 np enp (by omega) nb enb (by omega) lv elv (by omega) r3 er3) (cwV 2 hts gX5_lean_X5_plays rfl rfl rfl (by decide +kernel) ⟨Nat.le_of_ble_eq_true rfl, Nat.le_of_ble_eq_true rfl⟩) (hgPreV (C := RX5) (T := TX5) (N := 29) (ci := 5) (q0 := 0) hP hD hK hN [0, 1] rfl rfl rfl rfl) rfl rfl hl.1 rfl (lv_room (Nat.le_of_ble_eq_true rfl)) dX5_lean_57 ⟨Nat.zero_le _, Nat.zero_le _⟩) hP hD hS hA (wr := [(o_kind, .inl (cI, 6, .inl o_kind_v)), (o_looks, .inl (cI, 6, .inl o_looks_v))]) (wf := [(o_h, .inr (5, [.int o_players, .int o_bars, .ref o_price, .ref o_breath, .ref o_kind, .ref o_looks, .ref o_noise, .ref o_repeat, .ref o_now, .ref o_readPlayer, .ref o_readBar, .int o_readPlayers, .int o_readBars, .ref o_text, .int o_length, .int o_at, .int o_faultAt, .int o_acts, .int o_next, .ref o_row, .int o_heard, .ref o_heardOf, .ref o_heardBars, .ref o_heardPlays, .int o_hushWho, .int o_hushSum, .long o_seed, .ref o_isKept, .ref o_kept])), (o_now, .inl (cI, 32, .inl v7)), (o_kind, .inl (cI, 6, .inl o_kind_v)), (o_looks, .inl (cI, 6, .inl o_looks_v))]) [0, 1] [2, 3] [2, 3, 0, 1] rfl rfl rfl (by decide) rfl rfl (fun H locs hP hD hS => ?_)
            refine lv_if_ne (tgt := 67) hx hb dX5_lean_60 (by decide) (fun c_60 => ?_) (fun c_60 => ?_)
            · have ez1 := ez1.trans (if_neg c_60)
              refine lv_iconst (v := 0) hx hb dX5_lean_67 (by decide) ?_
              subst ez1
              exact hJ _ _ hP hD hS
            · have ez1 := ez1.trans (if_pos c_60)
              refine lv_iconst (v := 1) hx hb dX5_lean_63 (by decide) ?_
              refine lv_goto (tgt := 68) hx hb dX5_lean_64 (by decide) ?_
              subst ez1
              exact hJ _ _ hP hD hS

set_option maxHeartbeats 4000000 in
set_option maxRecDepth 100000 in
theorem c_X5_passOn (l : Launch) (dC : Nat → ClassId) (dI : Nat → Nat → Nat) (cI cZ cM : ClassId) (sz : Nat) (o_h : Nat) (x0 : Int32) (o_players : Int32) (o_bars : Int32) (o_price : Nat) (o_breath : Nat) (o_kind : Nat) (o_looks : Nat) (o_noise : Nat) (o_repeat : Nat) (o_now : Nat) (o_readPlayer : Nat) (o_readBar : Nat) (o_readPlayers : Int32) (o_readBars : Int32) (o_text : Nat) (o_length : Int32) (o_at : Int32) (o_faultAt : Int32) (o_acts : Int32) (o_next : Int32) (o_row : Nat) (o_heard : Int32) (o_heardOf : Nat) (o_heardBars : Nat) (o_heardPlays : Nat) (o_hushWho : Int32) (o_hushSum : Int32) (o_seed : Int64) (o_isKept : Nat) (o_kept : Nat) (o_now_v : Nat → Int32) (o_noise_v : Nat → Int32) (o_kind_v : Nat → Int32) (o_looks_v : Nat → Int32) (o_repeat_v : Nat → Int32) (np : Nat) (enp : o_players = nI np) (hnp : np ≤ 6) (nb : Nat) (enb : o_bars = nI nb) (hnb : nb ≤ 8) (lv : Nat) (elv : x0 = nI lv) (hlv : lv < 2) (hB : mB o_now_v) (u : Int32 × (Nat → Int32)) (hu : u = f_X5_passOn x0 o_players o_bars o_now_v o_noise_v o_kind_v o_looks_v o_repeat_v) : Met l yX5_passOn wsX5_passOn { frames := 4, cells := 0, slots := 0, locals := 92 } (hgPc [.ref o_h, .int x0] (dC, dI) cI cZ cM [(o_h, .inr (5, [.int o_players, .int o_bars, .ref o_price, .ref o_breath, .ref o_kind, .ref o_looks, .ref o_noise, .ref o_repeat, .ref o_now, .ref o_readPlayer, .ref o_readBar, .int o_readPlayers, .int o_readBars, .ref o_text, .int o_length, .int o_at, .int o_faultAt, .int o_acts, .int o_next, .ref o_row, .int o_heard, .ref o_heardOf, .ref o_heardBars, .ref o_heardPlays, .int o_hushWho, .int o_hushSum, .long o_seed, .ref o_isKept, .ref o_kept])), (o_now, .inl (cI, 32, .inl o_now_v)), (o_noise, .inl (cI, 8, .inl o_noise_v)), (o_kind, .inl (cI, 6, .inl o_kind_v)), (o_looks, .inl (cI, 6, .inl o_looks_v)), (o_repeat, .inl (cI, 8, .inl o_repeat_v))] sz) (hgQiE (dC, dI) u.1 [(o_h, .inr (5, [.int o_players, .int o_bars, .ref o_price, .ref o_breath, .ref o_kind, .ref o_looks, .ref o_noise, .ref o_repeat, .ref o_now, .ref o_readPlayer, .ref o_readBar, .int o_readPlayers, .int o_readBars, .ref o_text, .int o_length, .int o_at, .int o_faultAt, .int o_acts, .int o_next, .ref o_row, .int o_heard, .ref o_heardOf, .ref o_heardBars, .ref o_heardPlays, .int o_hushWho, .int o_hushSum, .long o_seed, .ref o_isKept, .ref o_kept])), (o_now, .inl (cI, 32, .inl u.2)), (o_noise, .inl (cI, 8, .inl o_noise_v)), (o_kind, .inl (cI, 6, .inl o_kind_v)), (o_looks, .inl (cI, 6, .inl o_looks_v)), (o_repeat, .inl (cI, 8, .inl o_repeat_v))] (mB u.2) (va_A [(o_h, .inr (5, [.int o_players, .int o_bars, .ref o_price, .ref o_breath, .ref o_kind, .ref o_looks, .ref o_noise, .ref o_repeat, .ref o_now, .ref o_readPlayer, .ref o_readBar, .int o_readPlayers, .int o_readBars, .ref o_text, .int o_length, .int o_at, .int o_faultAt, .int o_acts, .int o_next, .ref o_row, .int o_heard, .ref o_heardOf, .ref o_heardBars, .ref o_heardPlays, .int o_hushWho, .int o_hushSum, .long o_seed, .ref o_isKept, .ref o_kept])), (o_now, .inl (cI, 32, .inl o_now_v)), (o_noise, .inl (cI, 8, .inl o_noise_v)), (o_kind, .inl (cI, 6, .inl o_kind_v)), (o_looks, .inl (cI, 6, .inl o_looks_v)), (o_repeat, .inl (cI, 8, .inl o_repeat_v))] sz)) 0 0 (va_A [(o_h, .inr (5, [.int o_players, .int o_bars, .ref o_price, .ref o_breath, .ref o_kind, .ref o_looks, .ref o_noise, .ref o_repeat, .ref o_now, .ref o_readPlayer, .ref o_readBar, .int o_readPlayers, .int o_readBars, .ref o_text, .int o_length, .int o_at, .int o_faultAt, .int o_acts, .int o_next, .ref o_row, .int o_heard, .ref o_heardOf, .ref o_heardBars, .ref o_heardPlays, .int o_hushWho, .int o_hushSum, .long o_seed, .ref o_isKept, .ref o_kept])), (o_now, .inl (cI, 32, .inl o_now_v)), (o_noise, .inl (cI, 8, .inl o_noise_v)), (o_kind, .inl (cI, 6, .inl o_kind_v)), (o_looks, .inl (cI, 6, .inl o_looks_v)), (o_repeat, .inl (cI, 8, .inl o_repeat_v))] sz) := by
  refine hg_ofW (cc := cX5_passOn) (maxL := 6) (ret := (some .int)) (own := RX5) (fun A => hgQiE (dC, dI) u.1 [(o_h, .inr (5, [.int o_players, .int o_bars, .ref o_price, .ref o_breath, .ref o_kind, .ref o_looks, .ref o_noise, .ref o_repeat, .ref o_now, .ref o_readPlayer, .ref o_readBar, .int o_readPlayers, .int o_readBars, .ref o_text, .int o_length, .int o_at, .int o_faultAt, .int o_acts, .int o_next, .ref o_row, .int o_heard, .ref o_heardOf, .ref o_heardBars, .ref o_heardPlays, .int o_hushWho, .int o_hushSum, .long o_seed, .ref o_isKept, .ref o_kept])), (o_now, .inl (cI, 32, .inl u.2)), (o_noise, .inl (cI, 8, .inl o_noise_v)), (o_kind, .inl (cI, 6, .inl o_kind_v)), (o_looks, .inl (cI, 6, .inl o_looks_v)), (o_repeat, .inl (cI, 8, .inl o_repeat_v))] (mB u.2) A) rfl (by decide) rfl (Nat.le_of_ble_eq_true rfl) ?_
  intro p e s m below meth c ls A hsz hx hb hr hml hown hts hlk hnm hK hN hA hP hD hS hl
  subst hsz
  have w1 := hts (.fieldLink RX5 28 "HatGoesRoundModel" "now" "[I") (List.mem_of_getElem? (i := 1) rfl)
  have hinX5 : ∀ w ∈ u_ws RX5 TX5 29, w ∈ wsX5_passOn := fun _ h => List.mem_cons_of_mem _ (List.mem_append_right _ h)
  have w2 := hts (.fieldLink RX5 22 "HatGoesRoundModel" "noise" "[I") (List.mem_of_getElem? (i := 2) rfl)
  have w3 := hts (.fieldLink RX5 25 "HatGoesRoundModel" "repeat" "[I") (List.mem_of_getElem? (i := 3) rfl)
  have w4 := hts (.fieldLink RX5 96 "HatGoesRoundModel" "bars" "I") (List.mem_of_getElem? (i := 4) rfl)
  have hl : lv_has ls 6 [(0, .ref o_h), (1, .int x0)] := hl
  unfold f_X5_passOn at hu
  refine lv_bipush (v := 16) hx hb dX5_passOn_0 (by decide) ?_
  refine lv_iload_n hx hb dX5_passOn_2 rfl (lv_at hl 1 rfl) ?_
  refine lv_imul hx hb dX5_passOn_3 ?_
  refine lv_istore_n (lv' := [(2, .int (16 * x0)), (0, .ref o_h), (1, .int x0)]) hx hb dX5_passOn_4 rfl hl (by decide) rfl (fun ls hl => ?_)
  refine lv_aload_n hx hb dX5_passOn_5 rfl (lv_at hl 1 rfl) ?_
  refine lv_iload_n hx hb dX5_passOn_6 rfl (lv_at hl 2 rfl) ?_
  obtain ⟨r1, er1, hu⟩ := lxb_o hu
  refine hg_ci (va_runV (As := [.int x0]) (rest := []) ⟨hx, hb, hml, hown, hts⟩ (c_X5_isSilent l dC dI cI cZ cM _ o_h x0 o_players o_bars o_price o_breath o_kind o_looks o_noise o_repeat o_now o_readPlayer o_readBar o_readPlayers o_readBars o_text o_length o_at o_faultAt o_acts o_next o_row o_heard o_heardOf o_heardBars o_heardPlays o_hushWho o_hushSum o_seed o_isKept o_kept o_now_v np enp (by omega) nb enb (by omega) lv elv (by omega) r1 er1) (cwV 1 hts gX5_passOn_X5_isSilent rfl rfl rfl (by decide +kernel) ⟨Nat.le_of_ble_eq_true rfl, Nat.le_of_ble_eq_true rfl⟩) (hgPreV (C := RX5) (T := TX5) (N := 29) (ci := 5) (q0 := 0) hP hD hK hN [0, 1] rfl rfl rfl rfl) rfl rfl hl.1 rfl (lv_room (Nat.le_of_ble_eq_true rfl)) dX5_passOn_7 ⟨Nat.zero_le _, Nat.zero_le _⟩) hP hD hS hA (wr := [(o_noise, .inl (cI, 8, .inl o_noise_v)), (o_kind, .inl (cI, 6, .inl o_kind_v)), (o_looks, .inl (cI, 6, .inl o_looks_v)), (o_repeat, .inl (cI, 8, .inl o_repeat_v))]) (wf := [(o_h, .inr (5, [.int o_players, .int o_bars, .ref o_price, .ref o_breath, .ref o_kind, .ref o_looks, .ref o_noise, .ref o_repeat, .ref o_now, .ref o_readPlayer, .ref o_readBar, .int o_readPlayers, .int o_readBars, .ref o_text, .int o_length, .int o_at, .int o_faultAt, .int o_acts, .int o_next, .ref o_row, .int o_heard, .ref o_heardOf, .ref o_heardBars, .ref o_heardPlays, .int o_hushWho, .int o_hushSum, .long o_seed, .ref o_isKept, .ref o_kept])), (o_now, .inl (cI, 32, .inl o_now_v)), (o_noise, .inl (cI, 8, .inl o_noise_v)), (o_kind, .inl (cI, 6, .inl o_kind_v)), (o_looks, .inl (cI, 6, .inl o_looks_v)), (o_repeat, .inl (cI, 8, .inl o_repeat_v))]) [0, 1] [2, 3, 4, 5] [4, 5, 0, 1, 2, 3] rfl rfl rfl (by decide) rfl rfl (fun H locs hP hD hS => ?_)
  refine lv_if_eq (tgt := 15) hx hb dX5_passOn_10 (by decide) (fun c_10 => ?_) (fun c_10 => ?_)
  · have hu := hu.trans (if_pos c_10)
    refine lv_aload_n hx hb dX5_passOn_15 rfl (lv_at hl 1 rfl) ?_
    refine va_get (D := (dC, dI)) (ci := 5) (v := .ref o_now) (C := RX5) (T := TX5) (N := 29) hx hb hts hinX5 hown hK hP 0 rfl rfl 8 (by decide) w1 (fun _ h9 => h9) rfl dX5_passOn_16 ?_
    refine lv_iload_n hx hb dX5_passOn_19 rfl (lv_at hl 0 rfl) ?_
    refine lv_bipush (v := 12) hx hb dX5_passOn_20 (by decide) ?_
    refine lv_iadd hx hb dX5_passOn_22 ?_
    refine va_iald hx hb hK hP 1 0 rfl rfl (n := 32) (f := o_now_v) (hg_in (n := ((16 * lv) + 12)) (N := 32) (nx_add (nx_mul (show (16 : Int32) = nI 16 from rfl) elv) (show (12 : Int32) = nI 12 from rfl)) (by omega) (by decide)) dX5_passOn_23 ?_
    obtain ⟨y2, ey2, hu⟩ := lxb_o hu
    refine lv_topi (fun z ez => ?_)
    obtain rfl : y2 = z := ey2.trans ez.symm
    obtain ⟨jb, hjb, ejb⟩ := mBar enb hnb hB elv hlv ey2 er1 c_10
    refine lv_istore_n (lv' := [(3, .int y2), (2, .int (16 * x0)), (0, .ref o_h), (1, .int x0)]) hx hb dX5_passOn_24 rfl hl (by decide) rfl (fun ls hl => ?_)
    refine lv_aload_n hx hb dX5_passOn_25 rfl (lv_at hl 2 rfl) ?_
    refine va_get (D := (dC, dI)) (ci := 5) (v := .ref o_noise) (C := RX5) (T := TX5) (N := 29) hx hb hts hinX5 hown hK hP 0 rfl rfl 6 (by decide) w2 (fun _ h9 => h9) rfl dX5_passOn_26 ?_
    refine lv_iload_n hx hb dX5_passOn_29 rfl (lv_at hl 0 rfl) ?_
    refine va_iald hx hb hK hP 2 0 rfl rfl (n := 8) (f := o_noise_v) (hg_in (n := jb) (N := 8) ejb (by omega) (by decide)) dX5_passOn_30 ?_
    refine lv_aload_n hx hb dX5_passOn_31 rfl (lv_at hl 2 rfl) ?_
    refine lv_iload_n hx hb dX5_passOn_32 rfl (lv_at hl 3 rfl) ?_
    obtain ⟨r3, er3, hu⟩ := lxb_o hu
    refine hg_ci (va_runV (As := [.int x0]) (rest := [.int (o_noise_v (Int32.toNatClampNeg y2))]) ⟨hx, hb, hml, hown, hts⟩ (c_X5_howMany l dC dI cI cZ cM _ o_h x0 o_players o_bars o_price o_breath o_kind o_looks o_noise o_repeat o_now o_readPlayer o_readBar o_readPlayers o_readBars o_text o_length o_at o_faultAt o_acts o_next o_row o_heard o_heardOf o_heardBars o_heardPlays o_hushWho o_hushSum o_seed o_isKept o_kept o_now_v np enp (by omega) nb enb (by omega) lv elv (by omega) r3 er3) (cwV 1 hts gX5_passOn_X5_howMany rfl rfl rfl (by decide +kernel) ⟨Nat.le_of_ble_eq_true rfl, Nat.le_of_ble_eq_true rfl⟩) (hgPreV (C := RX5) (T := TX5) (N := 29) (ci := 5) (q0 := 0) hP hD hK hN [0, 1] rfl rfl rfl rfl) rfl rfl hl.1 rfl (lv_room (Nat.le_of_ble_eq_true rfl)) dX5_passOn_33 ⟨Nat.zero_le _, Nat.zero_le _⟩) hP hD hS hA (wr := [(o_noise, .inl (cI, 8, .inl o_noise_v)), (o_kind, .inl (cI, 6, .inl o_kind_v)), (o_looks, .inl (cI, 6, .inl o_looks_v)), (o_repeat, .inl (cI, 8, .inl o_repeat_v))]) (wf := [(o_h, .inr (5, [.int o_players, .int o_bars, .ref o_price, .ref o_breath, .ref o_kind, .ref o_looks, .ref o_noise, .ref o_repeat, .ref o_now, .ref o_readPlayer, .ref o_readBar, .int o_readPlayers, .int o_readBars, .ref o_text, .int o_length, .int o_at, .int o_faultAt, .int o_acts, .int o_next, .ref o_row, .int o_heard, .ref o_heardOf, .ref o_heardBars, .ref o_heardPlays, .int o_hushWho, .int o_hushSum, .long o_seed, .ref o_isKept, .ref o_kept])), (o_now, .inl (cI, 32, .inl o_now_v)), (o_noise, .inl (cI, 8, .inl o_noise_v)), (o_kind, .inl (cI, 6, .inl o_kind_v)), (o_looks, .inl (cI, 6, .inl o_looks_v)), (o_repeat, .inl (cI, 8, .inl o_repeat_v))]) [0, 1] [2, 3, 4, 5] [4, 5, 0, 1, 2, 3] rfl rfl rfl (by decide) rfl rfl (fun H locs hP hD hS => ?_)
    refine lv_imul hx hb dX5_passOn_36 ?_
    obtain ⟨y4, ey4, hu⟩ := lxb_o hu
    refine lv_topi (fun z ez => ?_)
    obtain rfl : y4 = z := ey4.trans ez.symm
    refine lv_istore (lv' := [(4, .int y4), (3, .int y2), (2, .int (16 * x0)), (0, .ref o_h), (1, .int x0)]) hx hb dX5_passOn_37 hl (by decide) rfl (fun ls hl => ?_)
    refine lv_aload_n hx hb dX5_passOn_39 rfl (lv_at hl 3 rfl) ?_
    refine lv_iload_n hx hb dX5_passOn_40 rfl (lv_at hl 4 rfl) ?_
    refine lv_aload_n hx hb dX5_passOn_41 rfl (lv_at hl 3 rfl) ?_
    refine va_get (D := (dC, dI)) (ci := 5) (v := .ref o_noise) (C := RX5) (T := TX5) (N := 29) hx hb hts hinX5 hown hK hP 0 rfl rfl 6 (by decide) w2 (fun _ h9 => h9) rfl dX5_passOn_42 ?_
    refine lv_iload_n hx hb dX5_passOn_45 rfl (lv_at hl 1 rfl) ?_
    refine va_iald hx hb hK hP 2 0 rfl rfl (n := 8) (f := o_noise_v) (hg_in (n := jb) (N := 8) ejb (by omega) (by decide)) dX5_passOn_46 ?_
    obtain ⟨r5, er5, hu⟩ := lxb_o hu
    refine hg_cvE (va_runV (As := [.int x0, .int (o_noise_v (Int32.toNatClampNeg y2))]) (rest := []) ⟨hx, hb, hml, hown, hts⟩ (c_X5_blow l dC dI cI cZ cM _ o_h x0 (o_noise_v (Int32.toNatClampNeg y2)) o_players o_bars o_price o_breath o_kind o_looks o_noise o_repeat o_now o_readPlayer o_readBar o_readPlayers o_readBars o_text o_length o_at o_faultAt o_acts o_next o_row o_heard o_heardOf o_heardBars o_heardPlays o_hushWho o_hushSum o_seed o_isKept o_kept o_now_v o_kind_v np enp (by omega) nb enb (by omega) lv elv (by omega) hB r5 er5) (cwV 2 hts gX5_passOn_X5_blow rfl rfl rfl (by decide +kernel) ⟨Nat.le_of_ble_eq_true rfl, Nat.le_of_ble_eq_true rfl⟩) (hgPreV (C := RX5) (T := TX5) (N := 29) (ci := 5) (q0 := 0) hP hD hK hN [0, 1, 3] rfl rfl rfl rfl) rfl rfl hl.1 rfl (lv_room (Nat.le_of_ble_eq_true rfl)) dX5_passOn_47 ⟨Nat.zero_le _, Nat.zero_le _⟩) hP hD hS hA (wr := [(o_noise, .inl (cI, 8, .inl o_noise_v)), (o_looks, .inl (cI, 6, .inl o_looks_v)), (o_repeat, .inl (cI, 8, .inl o_repeat_v))]) (wf := [(o_h, .inr (5, [.int o_players, .int o_bars, .ref o_price, .ref o_breath, .ref o_kind, .ref o_looks, .ref o_noise, .ref o_repeat, .ref o_now, .ref o_readPlayer, .ref o_readBar, .int o_readPlayers, .int o_readBars, .ref o_text, .int o_length, .int o_at, .int o_faultAt, .int o_acts, .int o_next, .ref o_row, .int o_heard, .ref o_heardOf, .ref o_heardBars, .ref o_heardPlays, .int o_hushWho, .int o_hushSum, .long o_seed, .ref o_isKept, .ref o_kept])), (o_now, .inl (cI, 32, .inl r5)), (o_noise, .inl (cI, 8, .inl o_noise_v)), (o_kind, .inl (cI, 6, .inl o_kind_v)), (o_looks, .inl (cI, 6, .inl o_looks_v)), (o_repeat, .inl (cI, 8, .inl o_repeat_v))]) [0, 1, 3] [2, 4, 5] [3, 4, 0, 5, 1, 2] rfl rfl rfl (by decide) rfl rfl (fun hB6 H locs hP hD hS => ?_)
    refine lv_aload_n hx hb dX5_passOn_50 rfl (lv_at hl 3 rfl) ?_
    refine lv_iload_n hx hb dX5_passOn_51 rfl (lv_at hl 4 rfl) ?_
    obtain ⟨r7, er7, hu⟩ := lxb_o hu
    refine hg_cvE (va_runV (As := [.int x0]) (rest := []) ⟨hx, hb, hml, hown, hts⟩ (c_X5_lean l dC dI cI cZ cM _ o_h x0 o_players o_bars o_price o_breath o_kind o_looks o_noise o_repeat o_now o_readPlayer o_readBar o_readPlayers o_readBars o_text o_length o_at o_faultAt o_acts o_next o_row o_heard o_heardOf o_heardBars o_heardPlays o_hushWho o_hushSum o_seed o_isKept o_kept r5 o_kind_v o_looks_v np enp (by omega) nb enb (by omega) lv elv (by omega) hB6 r7 er7) (cwV 1 hts gX5_passOn_X5_lean rfl rfl rfl (by decide +kernel) ⟨Nat.le_of_ble_eq_true rfl, Nat.le_of_ble_eq_true rfl⟩) (hgPreV (C := RX5) (T := TX5) (N := 29) (ci := 5) (q0 := 0) hP hD hK hN [0, 1, 3, 4] rfl rfl rfl rfl) rfl rfl hl.1 rfl (lv_room (Nat.le_of_ble_eq_true rfl)) dX5_passOn_52 ⟨Nat.zero_le _, Nat.zero_le _⟩) hP hD hS hA (wr := [(o_noise, .inl (cI, 8, .inl o_noise_v)), (o_repeat, .inl (cI, 8, .inl o_repeat_v))]) (wf := [(o_h, .inr (5, [.int o_players, .int o_bars, .ref o_price, .ref o_breath, .ref o_kind, .ref o_looks, .ref o_noise, .ref o_repeat, .ref o_now, .ref o_readPlayer, .ref o_readBar, .int o_readPlayers, .int o_readBars, .ref o_text, .int o_length, .int o_at, .int o_faultAt, .int o_acts, .int o_next, .ref o_row, .int o_heard, .ref o_heardOf, .ref o_heardBars, .ref o_heardPlays, .int o_hushWho, .int o_hushSum, .long o_seed, .ref o_isKept, .ref o_kept])), (o_now, .inl (cI, 32, .inl r7)), (o_noise, .inl (cI, 8, .inl o_noise_v)), (o_kind, .inl (cI, 6, .inl o_kind_v)), (o_looks, .inl (cI, 6, .inl o_looks_v)), (o_repeat, .inl (cI, 8, .inl o_repeat_v))]) [0, 1, 3, 4] [2, 5] [2, 3, 0, 4, 5, 1] rfl rfl rfl (by decide) rfl rfl (fun hB8 H locs hP hD hS => ?_)
    refine lv_aload_n hx hb dX5_passOn_55 rfl (lv_at hl 3 rfl) ?_
    refine va_get (D := (dC, dI)) (ci := 5) (v := .ref o_repeat) (C := RX5) (T := TX5) (N := 29) hx hb hts hinX5 hown hK hP 0 rfl rfl 7 (by decide) w3 (fun _ h9 => h9) rfl dX5_passOn_56 ?_
    refine lv_iload_n hx hb dX5_passOn_59 rfl (lv_at hl 1 rfl) ?_
    refine va_iald hx hb hK hP 5 0 rfl rfl (n := 8) (f := o_repeat_v) (hg_in (n := jb) (N := 8) ejb (by omega) (by decide)) dX5_passOn_60 ?_
    refine lv_i2l (v := (Int32.toInt64 (o_repeat_v (Int32.toNatClampNeg y2)))) hx hb dX5_passOn_61 rfl ?_
    refine lv_lconst (v := 1) hx hb dX5_passOn_62 (by decide) ?_
    refine lv_aload_n hx hb dX5_passOn_63 rfl (lv_at hl 3 rfl) ?_
    refine va_get (D := (dC, dI)) (ci := 5) (v := .int o_bars) (C := RX5) (T := TX5) (N := 29) hx hb hts hinX5 hown hK hP 0 rfl rfl 1 (by decide) w4 (fun _ h9 => h9) rfl dX5_passOn_64 ?_
    refine lv_i2l (v := (Int32.toInt64 o_bars)) hx hb dX5_passOn_67 rfl ?_
    obtain ⟨r9, er9, hu⟩ := lxb_o hu
    refine hg_ci (va_runS (As := [.long (Int32.toInt64 (o_repeat_v (Int32.toNatClampNeg y2))), .long 1, .long (Int32.toInt64 o_bars)]) (rest := []) ⟨hx, hb, hml, hown, hts⟩ (c_X5_in l dC dI cI cZ cM _ (Int32.toInt64 (o_repeat_v (Int32.toNatClampNeg y2))) 1 (Int32.toInt64 o_bars) r9 er9) (va_cwS 3 hts gX5_passOn_X5_in rfl rfl rfl (by decide +kernel) ⟨Nat.le_of_ble_eq_true rfl, Nat.le_of_ble_eq_true rfl⟩) (hgPreS hP hD hK hN [] rfl rfl) rfl rfl hl.1 rfl (lv_room (Nat.le_of_ble_eq_true rfl)) dX5_passOn_68 ⟨Nat.zero_le _, Nat.zero_le _⟩) hP hD hS hA (wr := [(o_h, .inr (5, [.int o_players, .int o_bars, .ref o_price, .ref o_breath, .ref o_kind, .ref o_looks, .ref o_noise, .ref o_repeat, .ref o_now, .ref o_readPlayer, .ref o_readBar, .int o_readPlayers, .int o_readBars, .ref o_text, .int o_length, .int o_at, .int o_faultAt, .int o_acts, .int o_next, .ref o_row, .int o_heard, .ref o_heardOf, .ref o_heardBars, .ref o_heardPlays, .int o_hushWho, .int o_hushSum, .long o_seed, .ref o_isKept, .ref o_kept])), (o_now, .inl (cI, 32, .inl r7)), (o_noise, .inl (cI, 8, .inl o_noise_v)), (o_kind, .inl (cI, 6, .inl o_kind_v)), (o_looks, .inl (cI, 6, .inl o_looks_v)), (o_repeat, .inl (cI, 8, .inl o_repeat_v))]) (wf := [(o_h, .inr (5, [.int o_players, .int o_bars, .ref o_price, .ref o_breath, .ref o_kind, .ref o_looks, .ref o_noise, .ref o_repeat, .ref o_now, .ref o_readPlayer, .ref o_readBar, .int o_readPlayers, .int o_readBars, .ref o_text, .int o_length, .int o_at, .int o_faultAt, .int o_acts, .int o_next, .ref o_row, .int o_heard, .ref o_heardOf, .ref o_heardBars, .ref o_heardPlays, .int o_hushWho, .int o_hushSum, .long o_seed, .ref o_isKept, .ref o_kept])), (o_now, .inl (cI, 32, .inl r7)), (o_noise, .inl (cI, 8, .inl o_noise_v)), (o_kind, .inl (cI, 6, .inl o_kind_v)), (o_looks, .inl (cI, 6, .inl o_looks_v)), (o_repeat, .inl (cI, 8, .inl o_repeat_v))]) [] [0, 1, 2, 3, 4, 5] [0, 1, 2, 3, 4, 5] rfl rfl rfl (by decide) rfl rfl (fun H locs hP hD hS => ?_)
    obtain ⟨z10, ez10, hu⟩ := lxb_o hu
    refine hg_cut (D := (dC, dI)) (A0 := A) (H0 := s.heap) (ws := [(o_h, .inr (5, [.int o_players, .int o_bars, .ref o_price, .ref o_breath, .ref o_kind, .ref o_looks, .ref o_noise, .ref o_repeat, .ref o_now, .ref o_readPlayer, .ref o_readBar, .int o_readPlayers, .int o_readBars, .ref o_text, .int o_length, .int o_at, .int o_faultAt, .int o_acts, .int o_next, .ref o_row, .int o_heard, .ref o_heardOf, .ref o_heardBars, .ref o_heardPlays, .int o_hushWho, .int o_hushSum, .long o_seed, .ref o_isKept, .ref o_kept])), (o_now, .inl (cI, 32, .inl r7)), (o_noise, .inl (cI, 8, .inl o_noise_v)), (o_kind, .inl (cI, 6, .inl o_kind_v)), (o_looks, .inl (cI, 6, .inl o_looks_v)), (o_repeat, .inl (cI, 8, .inl o_repeat_v))]) (g := F0 m 95 ls [.int z10]) ?_ (fun hJ => ?_)
    · intro H locs hP hD hS
      refine lv_istore (lv' := [(5, .int z10), (4, .int y4), (3, .int y2), (2, .int (16 * x0)), (0, .ref o_h), (1, .int x0)]) hx hb dX5_passOn_95 hl (by decide) rfl (fun ls hl => ?_)
      refine lv_aload_n hx hb dX5_passOn_97 rfl (lv_at hl 4 rfl) ?_
      refine va_get (D := (dC, dI)) (ci := 5) (v := .ref o_now) (C := RX5) (T := TX5) (N := 29) hx hb hts hinX5 hown hK hP 0 rfl rfl 8 (by decide) w1 (fun _ h9 => h9) rfl dX5_passOn_98 ?_
      refine lv_iload_n hx hb dX5_passOn_101 rfl (lv_at hl 3 rfl) ?_
      refine lv_bipush (v := 12) hx hb dX5_passOn_102 (by decide) ?_
      refine lv_iadd hx hb dX5_passOn_104 ?_
      refine lv_iload hx hb dX5_passOn_105 (lv_at hl 0 rfl) ?_
      obtain ⟨z12, ez12, hu⟩ := lxb_o hu
      refine hg_cut (D := (dC, dI)) (A0 := A) (H0 := s.heap) (ws := [(o_h, .inr (5, [.int o_players, .int o_bars, .ref o_price, .ref o_breath, .ref o_kind, .ref o_looks, .ref o_noise, .ref o_repeat, .ref o_now, .ref o_readPlayer, .ref o_readBar, .int o_readPlayers, .int o_readBars, .ref o_text, .int o_length, .int o_at, .int o_faultAt, .int o_acts, .int o_next, .ref o_row, .int o_heard, .ref o_heardOf, .ref o_heardBars, .ref o_heardPlays, .int o_hushWho, .int o_hushSum, .long o_seed, .ref o_isKept, .ref o_kept])), (o_now, .inl (cI, 32, .inl r7)), (o_noise, .inl (cI, 8, .inl o_noise_v)), (o_kind, .inl (cI, 6, .inl o_kind_v)), (o_looks, .inl (cI, 6, .inl o_looks_v)), (o_repeat, .inl (cI, 8, .inl o_repeat_v))]) (g := F0 m 124 ls [.int z12, .int ((16 * x0) + 12), .ref o_now]) ?_ (fun hJ => ?_)
      · intro H locs hP hD hS
        refine va_iast hx hb hK hP hD hS 1 0 rfl rfl (n := 32) (f := r7) (hg_in (n := ((16 * lv) + 12)) (N := 32) (nx_add (nx_mul (show (16 : Int32) = nI 16 from rfl) elv) (show (12 : Int32) = nI 12 from rfl)) (by omega) (by decide)) dX5_passOn_124 (fun H locs hP hD hS => ?_)
        have hP : va_P (dC, dI) vwCl [(o_h, .inr (5, [.int o_players, .int o_bars, .ref o_price, .ref o_breath, .ref o_kind, .ref o_looks, .ref o_noise, .ref o_repeat, .ref o_now, .ref o_readPlayer, .ref o_readBar, .int o_readPlayers, .int o_readBars, .ref o_text, .int o_length, .int o_at, .int o_faultAt, .int o_acts, .int o_next, .ref o_row, .int o_heard, .ref o_heardOf, .ref o_heardBars, .ref o_heardPlays, .int o_hushWho, .int o_hushSum, .long o_seed, .ref o_isKept, .ref o_kept])), (o_now, .inl (cI, 32, .inl (upd r7 (Int32.toNatClampNeg ((16 * x0) + 12)) z12))), (o_noise, .inl (cI, 8, .inl o_noise_v)), (o_kind, .inl (cI, 6, .inl o_kind_v)), (o_looks, .inl (cI, 6, .inl o_looks_v)), (o_repeat, .inl (cI, 8, .inl o_repeat_v))] H := hP
        have hD : va_D A [(o_h, .inr (5, [.int o_players, .int o_bars, .ref o_price, .ref o_breath, .ref o_kind, .ref o_looks, .ref o_noise, .ref o_repeat, .ref o_now, .ref o_readPlayer, .ref o_readBar, .int o_readPlayers, .int o_readBars, .ref o_text, .int o_length, .int o_at, .int o_faultAt, .int o_acts, .int o_next, .ref o_row, .int o_heard, .ref o_heardOf, .ref o_heardBars, .ref o_heardPlays, .int o_hushWho, .int o_hushSum, .long o_seed, .ref o_isKept, .ref o_kept])), (o_now, .inl (cI, 32, .inl (upd r7 (Int32.toNatClampNeg ((16 * x0) + 12)) z12))), (o_noise, .inl (cI, 8, .inl o_noise_v)), (o_kind, .inl (cI, 6, .inl o_kind_v)), (o_looks, .inl (cI, 6, .inl o_looks_v)), (o_repeat, .inl (cI, 8, .inl o_repeat_v))] := hD
        have hB13 : mB (upd r7 (Int32.toNatClampNeg ((16 * x0) + 12)) z12) := mB_upd (n := ((16 * lv) + 12)) hB8 (nx_add (nx_mul (show (16 : Int32) = nI 16 from rfl) elv) (show (12 : Int32) = nI 12 from rfl)) (by omega) (fun _ => mBack ez12 ez10 er9 ejb (by omega))
        refine lv_aload_n hx hb dX5_passOn_125 rfl (lv_at hl 4 rfl) ?_
        refine va_get (D := (dC, dI)) (ci := 5) (v := .ref o_now) (C := RX5) (T := TX5) (N := 29) hx hb hts hinX5 hown hK hP 0 rfl rfl 8 (by decide) w1 (fun _ h9 => h9) rfl dX5_passOn_126 ?_
        refine lv_iload_n hx hb dX5_passOn_129 rfl (lv_at hl 3 rfl) ?_
        refine lv_bipush (v := 13) hx hb dX5_passOn_130 (by decide) ?_
        refine lv_iadd hx hb dX5_passOn_132 ?_
        refine lv_dup2_11 hx hb dX5_passOn_133 rfl rfl ?_
        refine va_iald hx hb hK hP 1 0 rfl rfl (n := 32) (f := (upd r7 (Int32.toNatClampNeg ((16 * x0) + 12)) z12)) (hg_in (n := ((16 * lv) + 13)) (N := 32) (nx_add (nx_mul (show (16 : Int32) = nI 16 from rfl) elv) (show (13 : Int32) = nI 13 from rfl)) (by omega) (by decide)) dX5_passOn_134 ?_
        refine lv_iload hx hb dX5_passOn_135 (lv_at hl 0 rfl) ?_
        obtain ⟨z14, ez14, hu⟩ := lxb_o hu
        refine hg_cut (D := (dC, dI)) (A0 := A) (H0 := s.heap) (ws := [(o_h, .inr (5, [.int o_players, .int o_bars, .ref o_price, .ref o_breath, .ref o_kind, .ref o_looks, .ref o_noise, .ref o_repeat, .ref o_now, .ref o_readPlayer, .ref o_readBar, .int o_readPlayers, .int o_readBars, .ref o_text, .int o_length, .int o_at, .int o_faultAt, .int o_acts, .int o_next, .ref o_row, .int o_heard, .ref o_heardOf, .ref o_heardBars, .ref o_heardPlays, .int o_hushWho, .int o_hushSum, .long o_seed, .ref o_isKept, .ref o_kept])), (o_now, .inl (cI, 32, .inl (upd r7 (Int32.toNatClampNeg ((16 * x0) + 12)) z12))), (o_noise, .inl (cI, 8, .inl o_noise_v)), (o_kind, .inl (cI, 6, .inl o_kind_v)), (o_looks, .inl (cI, 6, .inl o_looks_v)), (o_repeat, .inl (cI, 8, .inl o_repeat_v))]) (g := F0 m 147 ls [.int z14, .int ((upd r7 (Int32.toNatClampNeg ((16 * x0) + 12)) z12) (Int32.toNatClampNeg ((16 * x0) + 13))), .int ((16 * x0) + 13), .ref o_now]) ?_ (fun hJ => ?_)
        · intro H locs hP hD hS
          refine lv_ior hx hb dX5_passOn_147 ?_
          obtain ⟨y15, ey15, hu⟩ := lxb_o hu
          refine lv_topi (fun z ez => ?_)
          obtain rfl : y15 = z := ey15.trans ez.symm
          refine va_iast hx hb hK hP hD hS 1 0 rfl rfl (n := 32) (f := (upd r7 (Int32.toNatClampNeg ((16 * x0) + 12)) z12)) (hg_in (n := ((16 * lv) + 13)) (N := 32) (nx_add (nx_mul (show (16 : Int32) = nI 16 from rfl) elv) (show (13 : Int32) = nI 13 from rfl)) (by omega) (by decide)) dX5_passOn_148 (fun H locs hP hD hS => ?_)
          have hP : va_P (dC, dI) vwCl [(o_h, .inr (5, [.int o_players, .int o_bars, .ref o_price, .ref o_breath, .ref o_kind, .ref o_looks, .ref o_noise, .ref o_repeat, .ref o_now, .ref o_readPlayer, .ref o_readBar, .int o_readPlayers, .int o_readBars, .ref o_text, .int o_length, .int o_at, .int o_faultAt, .int o_acts, .int o_next, .ref o_row, .int o_heard, .ref o_heardOf, .ref o_heardBars, .ref o_heardPlays, .int o_hushWho, .int o_hushSum, .long o_seed, .ref o_isKept, .ref o_kept])), (o_now, .inl (cI, 32, .inl (upd (upd r7 (Int32.toNatClampNeg ((16 * x0) + 12)) z12) (Int32.toNatClampNeg ((16 * x0) + 13)) y15))), (o_noise, .inl (cI, 8, .inl o_noise_v)), (o_kind, .inl (cI, 6, .inl o_kind_v)), (o_looks, .inl (cI, 6, .inl o_looks_v)), (o_repeat, .inl (cI, 8, .inl o_repeat_v))] H := hP
          have hD : va_D A [(o_h, .inr (5, [.int o_players, .int o_bars, .ref o_price, .ref o_breath, .ref o_kind, .ref o_looks, .ref o_noise, .ref o_repeat, .ref o_now, .ref o_readPlayer, .ref o_readBar, .int o_readPlayers, .int o_readBars, .ref o_text, .int o_length, .int o_at, .int o_faultAt, .int o_acts, .int o_next, .ref o_row, .int o_heard, .ref o_heardOf, .ref o_heardBars, .ref o_heardPlays, .int o_hushWho, .int o_hushSum, .long o_seed, .ref o_isKept, .ref o_kept])), (o_now, .inl (cI, 32, .inl (upd (upd r7 (Int32.toNatClampNeg ((16 * x0) + 12)) z12) (Int32.toNatClampNeg ((16 * x0) + 13)) y15))), (o_noise, .inl (cI, 8, .inl o_noise_v)), (o_kind, .inl (cI, 6, .inl o_kind_v)), (o_looks, .inl (cI, 6, .inl o_looks_v)), (o_repeat, .inl (cI, 8, .inl o_repeat_v))] := hD
          have hB16 : mB (upd (upd r7 (Int32.toNatClampNeg ((16 * x0) + 12)) z12) (Int32.toNatClampNeg ((16 * x0) + 13)) y15) := mB_upd (n := ((16 * lv) + 13)) hB13 (nx_add (nx_mul (show (16 : Int32) = nI 16 from rfl) elv) (show (13 : Int32) = nI 13 from rfl)) (by omega) (fun q => absurd q (by omega))
          refine lv_aload_n hx hb dX5_passOn_149 rfl (lv_at hl 4 rfl) ?_
          refine va_get (D := (dC, dI)) (ci := 5) (v := .ref o_now) (C := RX5) (T := TX5) (N := 29) hx hb hts hinX5 hown hK hP 0 rfl rfl 8 (by decide) w1 (fun _ h9 => h9) rfl dX5_passOn_150 ?_
          refine lv_iload_n hx hb dX5_passOn_153 rfl (lv_at hl 3 rfl) ?_
          refine lv_bipush (v := 15) hx hb dX5_passOn_154 (by decide) ?_
          refine lv_iadd hx hb dX5_passOn_156 ?_
          refine lv_dup2_11 hx hb dX5_passOn_157 rfl rfl ?_
          refine va_iald hx hb hK hP 1 0 rfl rfl (n := 32) (f := (upd (upd r7 (Int32.toNatClampNeg ((16 * x0) + 12)) z12) (Int32.toNatClampNeg ((16 * x0) + 13)) y15)) (hg_in (n := ((16 * lv) + 15)) (N := 32) (nx_add (nx_mul (show (16 : Int32) = nI 16 from rfl) elv) (show (15 : Int32) = nI 15 from rfl)) (by omega) (by decide)) dX5_passOn_158 ?_
          refine lv_iconst (v := 1) hx hb dX5_passOn_159 (by decide) ?_
          refine lv_iadd hx hb dX5_passOn_160 ?_
          obtain ⟨y17, ey17, hu⟩ := lxb_o hu
          refine lv_topi (fun z ez => ?_)
          obtain rfl : y17 = z := ey17.trans ez.symm
          refine va_iast hx hb hK hP hD hS 1 0 rfl rfl (n := 32) (f := (upd (upd r7 (Int32.toNatClampNeg ((16 * x0) + 12)) z12) (Int32.toNatClampNeg ((16 * x0) + 13)) y15)) (hg_in (n := ((16 * lv) + 15)) (N := 32) (nx_add (nx_mul (show (16 : Int32) = nI 16 from rfl) elv) (show (15 : Int32) = nI 15 from rfl)) (by omega) (by decide)) dX5_passOn_161 (fun H locs hP hD hS => ?_)
          have hP : va_P (dC, dI) vwCl [(o_h, .inr (5, [.int o_players, .int o_bars, .ref o_price, .ref o_breath, .ref o_kind, .ref o_looks, .ref o_noise, .ref o_repeat, .ref o_now, .ref o_readPlayer, .ref o_readBar, .int o_readPlayers, .int o_readBars, .ref o_text, .int o_length, .int o_at, .int o_faultAt, .int o_acts, .int o_next, .ref o_row, .int o_heard, .ref o_heardOf, .ref o_heardBars, .ref o_heardPlays, .int o_hushWho, .int o_hushSum, .long o_seed, .ref o_isKept, .ref o_kept])), (o_now, .inl (cI, 32, .inl (upd (upd (upd r7 (Int32.toNatClampNeg ((16 * x0) + 12)) z12) (Int32.toNatClampNeg ((16 * x0) + 13)) y15) (Int32.toNatClampNeg ((16 * x0) + 15)) y17))), (o_noise, .inl (cI, 8, .inl o_noise_v)), (o_kind, .inl (cI, 6, .inl o_kind_v)), (o_looks, .inl (cI, 6, .inl o_looks_v)), (o_repeat, .inl (cI, 8, .inl o_repeat_v))] H := hP
          have hD : va_D A [(o_h, .inr (5, [.int o_players, .int o_bars, .ref o_price, .ref o_breath, .ref o_kind, .ref o_looks, .ref o_noise, .ref o_repeat, .ref o_now, .ref o_readPlayer, .ref o_readBar, .int o_readPlayers, .int o_readBars, .ref o_text, .int o_length, .int o_at, .int o_faultAt, .int o_acts, .int o_next, .ref o_row, .int o_heard, .ref o_heardOf, .ref o_heardBars, .ref o_heardPlays, .int o_hushWho, .int o_hushSum, .long o_seed, .ref o_isKept, .ref o_kept])), (o_now, .inl (cI, 32, .inl (upd (upd (upd r7 (Int32.toNatClampNeg ((16 * x0) + 12)) z12) (Int32.toNatClampNeg ((16 * x0) + 13)) y15) (Int32.toNatClampNeg ((16 * x0) + 15)) y17))), (o_noise, .inl (cI, 8, .inl o_noise_v)), (o_kind, .inl (cI, 6, .inl o_kind_v)), (o_looks, .inl (cI, 6, .inl o_looks_v)), (o_repeat, .inl (cI, 8, .inl o_repeat_v))] := hD
          have hB18 : mB (upd (upd (upd r7 (Int32.toNatClampNeg ((16 * x0) + 12)) z12) (Int32.toNatClampNeg ((16 * x0) + 13)) y15) (Int32.toNatClampNeg ((16 * x0) + 15)) y17) := mB_upd (n := ((16 * lv) + 15)) hB16 (nx_add (nx_mul (show (16 : Int32) = nI 16 from rfl) elv) (show (15 : Int32) = nI 15 from rfl)) (by omega) (fun q => absurd q (by omega))
          refine lv_iload hx hb dX5_passOn_162 (lv_at hl 1 rfl) ?_
          subst hu
          exact hg_riE hx hb hr hlk rfl hB18 hP hD hS dX5_passOn_164
        · refine lv_if_eq (tgt := 146) hx hb dX5_passOn_137 (by decide) (fun c_137 => ?_) (fun c_137 => ?_)
          · have ez14 := ez14.trans (if_pos c_137)
            refine lv_iconst (v := 0) hx hb dX5_passOn_146 (by decide) ?_
            subst ez14
            exact hJ _ _ hP hD hS
          · have ez14 := ez14.trans (if_neg c_137)
            refine lv_iconst (v := 1) hx hb dX5_passOn_140 (by decide) ?_
            refine lv_iload_n hx hb dX5_passOn_141 rfl (lv_at hl 2 rfl) ?_
            refine lv_ishl hx hb dX5_passOn_142 ?_
            refine lv_goto (tgt := 147) hx hb dX5_passOn_143 (by decide) ?_
            subst ez14
            exact hJ _ _ hP hD hS
      · refine lv_if_eq (tgt := 121) hx hb dX5_passOn_107 (by decide) (fun c_107 => ?_) (fun c_107 => ?_)
        · have ez12 := ez12.trans (if_pos c_107)
          refine lv_iload_n hx hb dX5_passOn_121 rfl (lv_at hl 2 rfl) ?_
          refine lv_iconst (v := 1) hx hb dX5_passOn_122 (by decide) ?_
          refine lv_iadd hx hb dX5_passOn_123 ?_
          subst ez12
          exact hJ _ _ hP hD hS
        · have ez12 := ez12.trans (if_neg c_107)
          refine lv_aload_n hx hb dX5_passOn_110 rfl (lv_at hl 4 rfl) ?_
          refine va_get (D := (dC, dI)) (ci := 5) (v := .ref o_repeat) (C := RX5) (T := TX5) (N := 29) hx hb hts hinX5 hown hK hP 0 rfl rfl 7 (by decide) w3 (fun _ h9 => h9) rfl dX5_passOn_111 ?_
          refine lv_iload_n hx hb dX5_passOn_114 rfl (lv_at hl 2 rfl) ?_
          refine va_iald hx hb hK hP 5 0 rfl rfl (n := 8) (f := o_repeat_v) (hg_in (n := jb) (N := 8) ejb (by omega) (by decide)) dX5_passOn_115 ?_
          refine lv_iconst (v := 1) hx hb dX5_passOn_116 (by decide) ?_
          refine lv_isub hx hb dX5_passOn_117 ?_
          refine lv_goto (tgt := 124) hx hb dX5_passOn_118 (by decide) ?_
          subst ez12
          exact hJ _ _ hP hD hS
    · refine lv_if_eq (tgt := 94) hx hb dX5_passOn_71 (by decide) (fun c_71 => ?_) (fun c_71 => ?_)
      · have ez10 := ez10.trans (if_pos c_71)
        refine lv_iconst (v := 0) hx hb dX5_passOn_94 (by decide) ?_
        subst ez10
        exact hJ _ _ hP hD hS
      · have ez10 := ez10.trans (if_neg c_71)
        refine lv_aload_n hx hb dX5_passOn_74 rfl (lv_at hl 3 rfl) ?_
        refine va_get (D := (dC, dI)) (ci := 5) (v := .ref o_now) (C := RX5) (T := TX5) (N := 29) hx hb hts hinX5 hown hK hP 0 rfl rfl 8 (by decide) w1 (fun _ h9 => h9) rfl dX5_passOn_75 ?_
        refine lv_iload_n hx hb dX5_passOn_78 rfl (lv_at hl 2 rfl) ?_
        refine lv_bipush (v := 13) hx hb dX5_passOn_79 (by decide) ?_
        refine lv_iadd hx hb dX5_passOn_81 ?_
        refine va_iald hx hb hK hP 1 0 rfl rfl (n := 32) (f := r7) (hg_in (n := ((16 * lv) + 13)) (N := 32) (nx_add (nx_mul (show (16 : Int32) = nI 16 from rfl) elv) (show (13 : Int32) = nI 13 from rfl)) (by omega) (by decide)) dX5_passOn_82 ?_
        refine lv_iload_n hx hb dX5_passOn_83 rfl (lv_at hl 1 rfl) ?_
        obtain ⟨r11, er11, ez10⟩ := lxb_o ez10
        refine hg_ci (va_runS (As := [.int (r7 (Int32.toNatClampNeg ((16 * x0) + 13))), .int y2]) (rest := []) ⟨hx, hb, hml, hown, hts⟩ (c_X5_has l dC dI cI cZ cM _ (r7 (Int32.toNatClampNeg ((16 * x0) + 13))) y2 r11 er11) (va_cwS 2 hts gX5_passOn_X5_has rfl rfl rfl (by decide +kernel) ⟨Nat.le_of_ble_eq_true rfl, Nat.le_of_ble_eq_true rfl⟩) (hgPreS hP hD hK hN [] rfl rfl) rfl rfl hl.1 rfl (lv_room (Nat.le_of_ble_eq_true rfl)) dX5_passOn_84 ⟨Nat.zero_le _, Nat.zero_le _⟩) hP hD hS hA (wr := [(o_h, .inr (5, [.int o_players, .int o_bars, .ref o_price, .ref o_breath, .ref o_kind, .ref o_looks, .ref o_noise, .ref o_repeat, .ref o_now, .ref o_readPlayer, .ref o_readBar, .int o_readPlayers, .int o_readBars, .ref o_text, .int o_length, .int o_at, .int o_faultAt, .int o_acts, .int o_next, .ref o_row, .int o_heard, .ref o_heardOf, .ref o_heardBars, .ref o_heardPlays, .int o_hushWho, .int o_hushSum, .long o_seed, .ref o_isKept, .ref o_kept])), (o_now, .inl (cI, 32, .inl r7)), (o_noise, .inl (cI, 8, .inl o_noise_v)), (o_kind, .inl (cI, 6, .inl o_kind_v)), (o_looks, .inl (cI, 6, .inl o_looks_v)), (o_repeat, .inl (cI, 8, .inl o_repeat_v))]) (wf := [(o_h, .inr (5, [.int o_players, .int o_bars, .ref o_price, .ref o_breath, .ref o_kind, .ref o_looks, .ref o_noise, .ref o_repeat, .ref o_now, .ref o_readPlayer, .ref o_readBar, .int o_readPlayers, .int o_readBars, .ref o_text, .int o_length, .int o_at, .int o_faultAt, .int o_acts, .int o_next, .ref o_row, .int o_heard, .ref o_heardOf, .ref o_heardBars, .ref o_heardPlays, .int o_hushWho, .int o_hushSum, .long o_seed, .ref o_isKept, .ref o_kept])), (o_now, .inl (cI, 32, .inl r7)), (o_noise, .inl (cI, 8, .inl o_noise_v)), (o_kind, .inl (cI, 6, .inl o_kind_v)), (o_looks, .inl (cI, 6, .inl o_looks_v)), (o_repeat, .inl (cI, 8, .inl o_repeat_v))]) [] [0, 1, 2, 3, 4, 5] [0, 1, 2, 3, 4, 5] rfl rfl rfl (by decide) rfl rfl (fun H locs hP hD hS => ?_)
        refine lv_if_ne (tgt := 94) hx hb dX5_passOn_87 (by decide) (fun c_87 => ?_) (fun c_87 => ?_)
        · have ez10 := ez10.trans (if_neg c_87)
          refine lv_iconst (v := 0) hx hb dX5_passOn_94 (by decide) ?_
          subst ez10
          exact hJ _ _ hP hD hS
        · have ez10 := ez10.trans (if_pos c_87)
          refine lv_iconst (v := 1) hx hb dX5_passOn_90 (by decide) ?_
          refine lv_goto (tgt := 95) hx hb dX5_passOn_91 (by decide) ?_
          subst ez10
          exact hJ _ _ hP hD hS
  · have hu := hu.trans (if_neg c_10)
    refine lv_iconst (v := 0) hx hb dX5_passOn_13 (by decide) ?_
    subst hu
    exact hg_riE hx hb hr hlk rfl hB hP hD hS dX5_passOn_14

set_option maxHeartbeats 4000000 in
set_option maxRecDepth 100000 in
theorem c_X5_nextBar (l : Launch) (dC : Nat → ClassId) (dI : Nat → Nat → Nat) (cI cZ cM : ClassId) (sz : Nat) (o_h : Nat) (x0 : Int32) (o_players : Int32) (o_bars : Int32) (o_price : Nat) (o_breath : Nat) (o_kind : Nat) (o_looks : Nat) (o_noise : Nat) (o_repeat : Nat) (o_now : Nat) (o_readPlayer : Nat) (o_readBar : Nat) (o_readPlayers : Int32) (o_readBars : Int32) (o_text : Nat) (o_length : Int32) (o_at : Int32) (o_faultAt : Int32) (o_acts : Int32) (o_next : Int32) (o_row : Nat) (o_heard : Int32) (o_heardOf : Nat) (o_heardBars : Nat) (o_heardPlays : Nat) (o_hushWho : Int32) (o_hushSum : Int32) (o_seed : Int64) (o_isKept : Nat) (o_kept : Nat) (o_now_v : Nat → Int32) (np : Nat) (enp : o_players = nI np) (hnp : np ≤ 6) (nb : Nat) (enb : o_bars = nI nb) (hnb : nb ≤ 8) (lv : Nat) (elv : x0 = nI lv) (hlv : lv < 2) (u : Int32) (hu : u = f_X5_nextBar x0 o_players o_bars o_now_v) : Met l yX5_nextBar wsX5_nextBar { frames := 3, cells := 0, slots := 0, locals := 66 } (hgPc [.ref o_h, .int x0] (dC, dI) cI cZ cM [(o_h, .inr (5, [.int o_players, .int o_bars, .ref o_price, .ref o_breath, .ref o_kind, .ref o_looks, .ref o_noise, .ref o_repeat, .ref o_now, .ref o_readPlayer, .ref o_readBar, .int o_readPlayers, .int o_readBars, .ref o_text, .int o_length, .int o_at, .int o_faultAt, .int o_acts, .int o_next, .ref o_row, .int o_heard, .ref o_heardOf, .ref o_heardBars, .ref o_heardPlays, .int o_hushWho, .int o_hushSum, .long o_seed, .ref o_isKept, .ref o_kept])), (o_now, .inl (cI, 32, .inl o_now_v))] sz) (hgQi (dC, dI) u [(o_h, .inr (5, [.int o_players, .int o_bars, .ref o_price, .ref o_breath, .ref o_kind, .ref o_looks, .ref o_noise, .ref o_repeat, .ref o_now, .ref o_readPlayer, .ref o_readBar, .int o_readPlayers, .int o_readBars, .ref o_text, .int o_length, .int o_at, .int o_faultAt, .int o_acts, .int o_next, .ref o_row, .int o_heard, .ref o_heardOf, .ref o_heardBars, .ref o_heardPlays, .int o_hushWho, .int o_hushSum, .long o_seed, .ref o_isKept, .ref o_kept])), (o_now, .inl (cI, 32, .inl o_now_v))] (va_A [(o_h, .inr (5, [.int o_players, .int o_bars, .ref o_price, .ref o_breath, .ref o_kind, .ref o_looks, .ref o_noise, .ref o_repeat, .ref o_now, .ref o_readPlayer, .ref o_readBar, .int o_readPlayers, .int o_readBars, .ref o_text, .int o_length, .int o_at, .int o_faultAt, .int o_acts, .int o_next, .ref o_row, .int o_heard, .ref o_heardOf, .ref o_heardBars, .ref o_heardPlays, .int o_hushWho, .int o_hushSum, .long o_seed, .ref o_isKept, .ref o_kept])), (o_now, .inl (cI, 32, .inl o_now_v))] sz)) 0 0 (va_A [(o_h, .inr (5, [.int o_players, .int o_bars, .ref o_price, .ref o_breath, .ref o_kind, .ref o_looks, .ref o_noise, .ref o_repeat, .ref o_now, .ref o_readPlayer, .ref o_readBar, .int o_readPlayers, .int o_readBars, .ref o_text, .int o_length, .int o_at, .int o_faultAt, .int o_acts, .int o_next, .ref o_row, .int o_heard, .ref o_heardOf, .ref o_heardBars, .ref o_heardPlays, .int o_hushWho, .int o_hushSum, .long o_seed, .ref o_isKept, .ref o_kept])), (o_now, .inl (cI, 32, .inl o_now_v))] sz) := by
  refine hg_ofW (cc := cX5_nextBar) (maxL := 2) (ret := (some .int)) (own := RX5) (fun A => hgQi (dC, dI) u [(o_h, .inr (5, [.int o_players, .int o_bars, .ref o_price, .ref o_breath, .ref o_kind, .ref o_looks, .ref o_noise, .ref o_repeat, .ref o_now, .ref o_readPlayer, .ref o_readBar, .int o_readPlayers, .int o_readBars, .ref o_text, .int o_length, .int o_at, .int o_faultAt, .int o_acts, .int o_next, .ref o_row, .int o_heard, .ref o_heardOf, .ref o_heardBars, .ref o_heardPlays, .int o_hushWho, .int o_hushSum, .long o_seed, .ref o_isKept, .ref o_kept])), (o_now, .inl (cI, 32, .inl o_now_v))] A) rfl (by decide) rfl (Nat.le_of_ble_eq_true rfl) ?_
  intro p e s m below meth c ls A hsz hx hb hr hml hown hts hlk hnm hK hN hA hP hD hS hl
  subst hsz
  have w1 := hts (.fieldLink RX5 28 "HatGoesRoundModel" "now" "[I") (List.mem_of_getElem? (i := 1) rfl)
  have hinX5 : ∀ w ∈ u_ws RX5 TX5 29, w ∈ wsX5_nextBar := fun _ h => List.mem_cons_of_mem _ (List.mem_append_right _ h)
  have hl : lv_has ls 2 [(0, .ref o_h), (1, .int x0)] := hl
  unfold f_X5_nextBar at hu
  refine lv_aload_n hx hb dX5_nextBar_0 rfl (lv_at hl 0 rfl) ?_
  refine lv_iload_n hx hb dX5_nextBar_1 rfl (lv_at hl 1 rfl) ?_
  obtain ⟨r1, er1, hu⟩ := lxb_o hu
  refine hg_ci (va_runV (As := [.int x0]) (rest := []) ⟨hx, hb, hml, hown, hts⟩ (c_X5_isSilent l dC dI cI cZ cM _ o_h x0 o_players o_bars o_price o_breath o_kind o_looks o_noise o_repeat o_now o_readPlayer o_readBar o_readPlayers o_readBars o_text o_length o_at o_faultAt o_acts o_next o_row o_heard o_heardOf o_heardBars o_heardPlays o_hushWho o_hushSum o_seed o_isKept o_kept o_now_v np enp (by omega) nb enb (by omega) lv elv (by omega) r1 er1) (cwV 1 hts gX5_nextBar_X5_isSilent rfl rfl rfl (by decide +kernel) ⟨Nat.le_of_ble_eq_true rfl, Nat.le_of_ble_eq_true rfl⟩) (hgPreV (C := RX5) (T := TX5) (N := 29) (ci := 5) (q0 := 0) hP hD hK hN [0, 1] rfl rfl rfl rfl) rfl rfl hl.1 rfl (lv_room (Nat.le_of_ble_eq_true rfl)) dX5_nextBar_2 ⟨Nat.zero_le _, Nat.zero_le _⟩) hP hD hS hA (wr := []) (wf := [(o_h, .inr (5, [.int o_players, .int o_bars, .ref o_price, .ref o_breath, .ref o_kind, .ref o_looks, .ref o_noise, .ref o_repeat, .ref o_now, .ref o_readPlayer, .ref o_readBar, .int o_readPlayers, .int o_readBars, .ref o_text, .int o_length, .int o_at, .int o_faultAt, .int o_acts, .int o_next, .ref o_row, .int o_heard, .ref o_heardOf, .ref o_heardBars, .ref o_heardPlays, .int o_hushWho, .int o_hushSum, .long o_seed, .ref o_isKept, .ref o_kept])), (o_now, .inl (cI, 32, .inl o_now_v))]) [0, 1] [] [0, 1] rfl rfl rfl (by decide) rfl rfl (fun H locs hP hD hS => ?_)
  refine lv_if_eq (tgt := 13) hx hb dX5_nextBar_5 (by decide) (fun c_5 => ?_) (fun c_5 => ?_)
  · have hu := hu.trans (if_pos c_5)
    refine lv_aload_n hx hb dX5_nextBar_13 rfl (lv_at hl 0 rfl) ?_
    refine va_get (D := (dC, dI)) (ci := 5) (v := .ref o_now) (C := RX5) (T := TX5) (N := 29) hx hb hts hinX5 hown hK hP 0 rfl rfl 8 (by decide) w1 (fun _ h9 => h9) rfl dX5_nextBar_14 ?_
    refine lv_bipush (v := 16) hx hb dX5_nextBar_17 (by decide) ?_
    refine lv_iload_n hx hb dX5_nextBar_19 rfl (lv_at hl 1 rfl) ?_
    refine lv_imul hx hb dX5_nextBar_20 ?_
    refine lv_bipush (v := 12) hx hb dX5_nextBar_21 (by decide) ?_
    refine lv_iadd hx hb dX5_nextBar_23 ?_
    refine va_iald hx hb hK hP 1 0 rfl rfl (n := 32) (f := o_now_v) (hg_in (n := ((16 * lv) + 12)) (N := 32) (nx_add (nx_mul (show (16 : Int32) = nI 16 from rfl) elv) (show (12 : Int32) = nI 12 from rfl)) (by omega) (by decide)) dX5_nextBar_24 ?_
    subst hu
    exact hg_ri hx hb hr hlk rfl hP hD hS dX5_nextBar_25
  · have hu := hu.trans (if_neg c_5)
    refine lv_bipush (v := (-9)) hx hb dX5_nextBar_8 (by decide) ?_
    refine lv_goto (tgt := 25) hx hb dX5_nextBar_10 (by decide) ?_
    subst hu
    exact hg_ri hx hb hr hlk rfl hP hD hS dX5_nextBar_25
