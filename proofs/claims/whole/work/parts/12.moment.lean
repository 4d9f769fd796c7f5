def f_X2_isPlaying (x0 : Int32) (m_playing : Int32) : Int32 :=
  if ((m_playing >>> (x0 &&& 31)) &&& 1) = 1 then 1
  else 0

def f_X2_isPaid (x0 : Int32) (m_paid : Int32) : Int32 :=
  if ((m_paid >>> (x0 &&& 31)) &&& 1) = 1 then 1
  else 0

def f_X2_isTaken (x0 : Int32) (m_taken : Int32) : Int32 :=
  if ((m_taken >>> (x0 &&& 31)) &&& 1) = 1 then 1
  else 0

def f_X2_isTired (x0 : Int32) (m_playing : Int32) (m_paid : Int32) : Int32 :=
  lxb (f_X2_isPlaying x0 m_playing) (fun r1 =>
  if r1 = 0 then (lxb (f_X2_isPaid x0 m_paid) (fun r2 =>
    if r2 = 0 then 1
     else 0))
   else 0)

def f_X2_isSetOfPlaying (x0 : Int32) (m_playing : Int32) : Int32 :=
  if (x0 &&& (m_playing ^^^ (-1))) = 0 then 1
  else 0

def f_X2_tired (m_playing : Int32) (m_paid : Int32) (t_players : Int32) : Int32 :=
  lxb (f_X3_everybody t_players) (fun r1 =>
  ((r1 &&& (m_playing ^^^ (-1))) &&& (m_paid ^^^ (-1))))

def f_X2_windOf (x0 : Int32) (m_wind_v : Nat → Int32) : Int32 :=
  lxb (f_X4_at x0 6 m_wind_v) (fun r1 =>
  r1)

def f_X2_howManyPlay (m_playing : Int32) : Int32 :=
  lxb (f_J6_bitCount m_playing) (fun r1 =>
  r1)

def f_X2_isSilent (m_playing : Int32) (m_next : Int32) (t_bars : Int32) : Int32 :=
  if m_playing = 0 then 1
  else if m_next < t_bars then 0
   else 1
theorem z_X2_isSilent {m_playing : Int32} {m_next : Int32} {t_bars : Int32} {r : Int32} (er : r = f_X2_isSilent m_playing m_next t_bars) : narrow .boolean (.int r) = .int r := by
  subst er
  simp only [f_X2_isSilent, lxb]
  repeat' split
  all_goals first | exact (by decide : narrow .boolean (.int (0 : Int32)) = .int 0) | exact (by decide : narrow .boolean (.int (1 : Int32)) = .int 1)

def f_X2_barToCome (m_playing : Int32) (m_next : Int32) (t_bars : Int32) : Int32 :=
  lxb (f_X2_isSilent m_playing m_next t_bars) (fun r1 =>
  if r1 = 0 then m_next
   else (-9))

def b_X2_become_50 (m2_wind_v : Nat → Int32) (k50 : Nat) (v50 : (Nat → Int32)) : (Nat → Int32) :=
  lxb (f_X4_at (nI k50) 6 m2_wind_v) (fun r1 =>
  lxb (f_X4_put (nI k50) r1 6 v50) (fun r2 =>
   r2))
def l_X2_become_50 (m2_wind_v : Nat → Int32) (i0 : (Nat → Int32)) : Nat → (Nat → Int32)
  | 0 => i0
  | k + 1 => b_X2_become_50 m2_wind_v k (l_X2_become_50 m2_wind_v i0 k)
def f_X2_become (m2_playing : Int32) (m2_paid : Int32) (m2_next : Int32) (m2_taken : Int32) (m2_hat : Int32) (m2_time : Int32) (m2_wind_v : Nat → Int32) (m_wind_v : Nat → Int32) : Int32 × Int32 × Int32 × Int32 × Int32 × Int32 × (Nat → Int32) :=
  lxb (l_X2_become_50 m2_wind_v m_wind_v (itn 0 6)) (fun r3 =>
  (m2_playing, m2_paid, m2_next, m2_taken, m2_hat, m2_time, r3))

def b_X2_begin_35 (t_players : Int32) (t_winds_v : Nat → Int32) (k35 : Nat) (v35 : (Nat → Int32)) : (Nat → Int32) :=
  lxb (f_X3_hasPlayer (nI k35) t_players) (fun r2 =>
  lxb (α := Int32) (if r2 = 0 then 0
    else lxb (f_X4_at (nI k35) 6 t_winds_v) (fun r4 =>
     r4)) (fun z3 =>
   lxb (f_X4_put (nI k35) z3 6 v35) (fun r5 =>
    r5)))
def l_X2_begin_35 (t_players : Int32) (t_winds_v : Nat → Int32) (i0 : (Nat → Int32)) : Nat → (Nat → Int32)
  | 0 => i0
  | k + 1 => b_X2_begin_35 t_players t_winds_v k (l_X2_begin_35 t_players t_winds_v i0 k)
def f_X2_begin (t_players : Int32) (t_winds_v : Nat → Int32) (m_wind_v : Nat → Int32) : Int32 × Int32 × Int32 × Int32 × Int32 × Int32 × (Nat → Int32) :=
  lxb (f_X3_everybody t_players) (fun r1 =>
  lxb (l_X2_begin_35 t_players t_winds_v m_wind_v (itn 0 6)) (fun r6 =>
   (r1, 0, 0, 0, 0, 0, r6)))

def f_X2_tire (x0 : Int32) (m_playing : Int32) : Int32 :=
  (m_playing &&& (x0 ^^^ (-1)))

def f_X2_payFreely (x0 : Int32) (m_playing : Int32) (m_paid : Int32) : Int32 × Int32 :=
  ((m_playing &&& (x0 ^^^ (-1))), (m_paid ||| x0))

def b_X2_spendWind_23 (t_kinds_v : Nat → Int32) (z2 : Int32) (k23 : Nat) (v23 : Int32 × (Nat → Int32)) : Int32 × (Nat → Int32) :=
  lxb (f_X2_isPlaying (nI k23) v23.1) (fun r3 =>
  if r3 = 0 then (v23.1, v23.2)
   else lxb (α := Int32) (if z2 = 0 then 1
     else lxb (f_X4_at (nI k23) 6 t_kinds_v) (fun r5 =>
      if r5 = 2 then 2
       else 1)) (fun z4 =>
    lxb (f_X2_windOf (nI k23) v23.2) (fun r6 =>
     lxb ((if 0 < (r6 - z4) then (r6 - z4) else 0)) (fun y7 =>
      lxb (f_X4_put (nI k23) y7 6 v23.2) (fun r8 =>
       if y7 = 0 then (lxb (f_X2_tire (1 <<< (nI k23 &&& 31)) v23.1) (fun r9 =>
         (r9, r8)))
        else (v23.1, r8))))))
def l_X2_spendWind_23 (t_kinds_v : Nat → Int32) (z2 : Int32) (i0 : Int32 × (Nat → Int32)) : Nat → Int32 × (Nat → Int32)
  | 0 => i0
  | k + 1 => b_X2_spendWind_23 t_kinds_v z2 k (l_X2_spendWind_23 t_kinds_v z2 i0 k)
def f_X2_spendWind (m_playing : Int32) (m_next : Int32) (t_players : Int32) (t_noises_v : Nat → Int32) (t_kinds_v : Nat → Int32) (m_wind_v : Nat → Int32) : Int32 × (Nat → Int32) :=
  lxb (f_X4_at m_next 8 t_noises_v) (fun r1 =>
  lxb (α := Int32) (if r1 < 5 then 0
    else 1) (fun z2 =>
   lxb (l_X2_spendWind_23 t_kinds_v z2 (m_playing, m_wind_v) (itn 0 t_players)) (fun r10 =>
    (r10.1, r10.2))))

def b_X2_tireLeaners_2 (t_players : Int32) (t_looks_v : Nat → Int32) (t_kinds_v : Nat → Int32) (k2 : Nat) (v2 : Int32) : Int32 :=
  lxb (f_X4_at (nI k2) 6 t_looks_v) (fun r1 =>
  lxb (f_X4_at (nI k2) 6 t_kinds_v) (fun r2 =>
   if r2 = 1 then (lxb (f_X3_hasPlayer r1 t_players) (fun r3 =>
     if r3 = 0 then v2
      else lxb (f_X2_isPlaying r1 v2) (fun r4 =>
       if r4 = 0 then (lxb (f_X2_tire (1 <<< (nI k2 &&& 31)) v2) (fun r5 =>
         r5))
        else v2)))
    else v2))
def l_X2_tireLeaners_2 (t_players : Int32) (t_looks_v : Nat → Int32) (t_kinds_v : Nat → Int32) (i0 : Int32) : Nat → Int32
  | 0 => i0
  | k + 1 => b_X2_tireLeaners_2 t_players t_looks_v t_kinds_v k (l_X2_tireLeaners_2 t_players t_looks_v t_kinds_v i0 k)
def f_X2_tireLeaners (m_playing : Int32) (t_players : Int32) (t_looks_v : Nat → Int32) (t_kinds_v : Nat → Int32) : Int32 :=
  lxb (l_X2_tireLeaners_2 t_players t_looks_v t_kinds_v m_playing (itn 0 t_players)) (fun r6 =>
  r6)

def l_X2_tireLonelyBasses_2 (m_playing : Int32) (t_kinds_v : Nat → Int32) : Nat → Nat → Unit → Int32
  | 0, _, _ =>
    0
  | n2 + 1, k2, v2 =>
    lxb (f_X2_isPlaying (nI k2) m_playing) (fun r1 =>
    if r1 = 0 then l_X2_tireLonelyBasses_2 m_playing t_kinds_v n2 (k2 + 1) ()
     else lxb (f_X4_at (nI k2) 6 t_kinds_v) (fun r2 =>
      if r2 = 2 then l_X2_tireLonelyBasses_2 m_playing t_kinds_v n2 (k2 + 1) ()
       else m_playing))
def f_X2_tireLonelyBasses (m_playing : Int32) (t_players : Int32) (t_kinds_v : Nat → Int32) : Int32 :=
  l_X2_tireLonelyBasses_2 m_playing t_kinds_v (itn 0 t_players) 0 ()

def b_X2_wakeDrums_2 (m_paid : Int32) (t_players : Int32) (t_looks_v : Nat → Int32) (t_kinds_v : Nat → Int32) (k2 : Nat) (v2 : Int32 × (Nat → Int32)) : Int32 × (Nat → Int32) :=
  lxb (f_X4_at (nI k2) 6 t_looks_v) (fun r1 =>
  lxb (f_X4_at (nI k2) 6 t_kinds_v) (fun r2 =>
   if r2 = 3 then (lxb (f_X2_isTired (nI k2) v2.1 m_paid) (fun r3 =>
     if r3 = 0 then (v2.1, v2.2)
      else lxb (f_X3_hasPlayer r1 t_players) (fun r4 =>
       if r4 = 0 then (v2.1, v2.2)
        else lxb (f_X2_isPlaying r1 v2.1) (fun r5 =>
         if r5 = 0 then (v2.1, v2.2)
          else lxb ((v2.1 ||| (1 <<< (nI k2 &&& 31)))) (fun y6 =>
           lxb (f_X4_put (nI k2) 2 6 v2.2) (fun r7 =>
            (y6, r7)))))))
    else (v2.1, v2.2)))
def l_X2_wakeDrums_2 (m_paid : Int32) (t_players : Int32) (t_looks_v : Nat → Int32) (t_kinds_v : Nat → Int32) (i0 : Int32 × (Nat → Int32)) : Nat → Int32 × (Nat → Int32)
  | 0 => i0
  | k + 1 => b_X2_wakeDrums_2 m_paid t_players t_looks_v t_kinds_v k (l_X2_wakeDrums_2 m_paid t_players t_looks_v t_kinds_v i0 k)
def f_X2_wakeDrums (m_playing : Int32) (m_paid : Int32) (t_players : Int32) (t_looks_v : Nat → Int32) (t_kinds_v : Nat → Int32) (m_wind_v : Nat → Int32) : Int32 × (Nat → Int32) :=
  lxb (l_X2_wakeDrums_2 m_paid t_players t_looks_v t_kinds_v (m_playing, m_wind_v) (itn 0 t_players)) (fun r8 =>
  (r8.1, r8.2))

def f_X2_turnPage (m_next : Int32) (m_taken : Int32) (t_bars : Int32) (t_repeats_v : Nat → Int32) : Int32 × Int32 :=
  lxb (f_X4_at m_next 8 t_repeats_v) (fun r1 =>
  lxb (f_X3_hasBar (r1 - 1) t_bars) (fun r2 =>
   if r2 = 0 then ((m_next + 1), m_taken)
    else lxb (f_X2_isTaken m_next m_taken) (fun r3 =>
     if r3 = 0 then (lxb ((m_taken ||| (1 <<< (m_next &&& 31)))) (fun y4 =>
       ((r1 - 1), y4)))
      else ((m_next + 1), m_taken))))

def f_X2_playBar (m_playing : Int32) (m_paid : Int32) (m_next : Int32) (m_taken : Int32) (m_time : Int32) (t_players : Int32) (t_bars : Int32) (t_noises_v : Nat → Int32) (t_kinds_v : Nat → Int32) (m_wind_v : Nat → Int32) (t_looks_v : Nat → Int32) (t_repeats_v : Nat → Int32) : Int32 × Int32 × Int32 × Int32 × Int32 × (Nat → Int32) :=
  lxb (f_X2_isSilent m_playing m_next t_bars) (fun r1 =>
  if r1 = 0 then (lxb (f_X2_spendWind m_playing m_next t_players t_noises_v t_kinds_v m_wind_v) (fun r2 =>
    lxb (f_X2_tireLeaners r2.1 t_players t_looks_v t_kinds_v) (fun r3 =>
     lxb (f_X2_tireLonelyBasses r3 t_players t_kinds_v) (fun r4 =>
      lxb (f_X2_wakeDrums r4 m_paid t_players t_looks_v t_kinds_v r2.2) (fun r5 =>
       lxb (f_X2_turnPage m_next m_taken t_bars t_repeats_v) (fun r6 =>
        (1, r5.1, r6.1, r6.2, (m_time + 1), r5.2)))))))
   else (0, m_playing, m_next, m_taken, m_time, m_wind_v))

def l_X2_playNoise_5 (m_paid : Int32) (t_players : Int32) (t_bars : Int32) (t_noises_v : Nat → Int32) (t_kinds_v : Nat → Int32) (t_looks_v : Nat → Int32) (t_repeats_v : Nat → Int32) : Nat → Nat → (Int32 × Int32 × Int32 × Int32 × Int32 × (Nat → Int32)) → Int32 × Int32 × Int32 × Int32 × Int32 × (Nat → Int32)
  | 0, _, v5 =>
    (v5.1, v5.2.1, v5.2.2.1, v5.2.2.2.1, v5.2.2.2.2.1, v5.2.2.2.2.2)
  | n5 + 1, k5, v5 =>
    lxb (f_X2_isSilent v5.2.1 v5.2.2.1 t_bars) (fun r1 =>
    if r1 = 0 then (lxb (f_X4_at v5.2.2.1 8 t_noises_v) (fun r2 =>
      lxb (f_X2_howManyPlay v5.2.1) (fun r3 =>
       lxb (f_X2_playBar v5.2.1 m_paid v5.2.2.1 v5.2.2.2.1 v5.2.2.2.2.1 t_players t_bars t_noises_v t_kinds_v v5.2.2.2.2.2 t_looks_v t_repeats_v) (fun r4 =>
        l_X2_playNoise_5 m_paid t_players t_bars t_noises_v t_kinds_v t_looks_v t_repeats_v n5 (k5 + 1) ((v5.1 + (r2 * r3)), r4.2.1, r4.2.2.1, r4.2.2.2.1, r4.2.2.2.2.1, r4.2.2.2.2.2)))))
     else (v5.1, v5.2.1, v5.2.2.1, v5.2.2.2.1, v5.2.2.2.2.1, v5.2.2.2.2.2))
def f_X2_playNoise (x1 : Int32) (m_playing : Int32) (m_paid : Int32) (m_next : Int32) (m_taken : Int32) (m_time : Int32) (t_players : Int32) (t_bars : Int32) (t_noises_v : Nat → Int32) (t_kinds_v : Nat → Int32) (m_wind_v : Nat → Int32) (t_looks_v : Nat → Int32) (t_repeats_v : Nat → Int32) : Int32 × Int32 × Int32 × Int32 × Int32 × (Nat → Int32) :=
  l_X2_playNoise_5 m_paid t_players t_bars t_noises_v t_kinds_v t_looks_v t_repeats_v (itn 0 x1) 0 (0, m_playing, m_next, m_taken, m_time, m_wind_v)

def b_X2_playBars_2 (m_paid : Int32) (t_players : Int32) (t_bars : Int32) (t_noises_v : Nat → Int32) (t_kinds_v : Nat → Int32) (t_looks_v : Nat → Int32) (t_repeats_v : Nat → Int32) (k2 : Nat) (v2 : Int32 × Int32 × Int32 × Int32 × (Nat → Int32)) : Int32 × Int32 × Int32 × Int32 × (Nat → Int32) :=
  lxb (f_X2_playBar v2.1 m_paid v2.2.1 v2.2.2.1 v2.2.2.2.1 t_players t_bars t_noises_v t_kinds_v v2.2.2.2.2 t_looks_v t_repeats_v) (fun r1 =>
  (r1.2.1, r1.2.2.1, r1.2.2.2.1, r1.2.2.2.2.1, r1.2.2.2.2.2))
def l_X2_playBars_2 (m_paid : Int32) (t_players : Int32) (t_bars : Int32) (t_noises_v : Nat → Int32) (t_kinds_v : Nat → Int32) (t_looks_v : Nat → Int32) (t_repeats_v : Nat → Int32) (i0 : Int32 × Int32 × Int32 × Int32 × (Nat → Int32)) : Nat → Int32 × Int32 × Int32 × Int32 × (Nat → Int32)
  | 0 => i0
  | k + 1 => b_X2_playBars_2 m_paid t_players t_bars t_noises_v t_kinds_v t_looks_v t_repeats_v k (l_X2_playBars_2 m_paid t_players t_bars t_noises_v t_kinds_v t_looks_v t_repeats_v i0 k)
def f_X2_playBars (x1 : Int32) (m_playing : Int32) (m_paid : Int32) (m_next : Int32) (m_taken : Int32) (m_time : Int32) (t_players : Int32) (t_bars : Int32) (t_noises_v : Nat → Int32) (t_kinds_v : Nat → Int32) (m_wind_v : Nat → Int32) (t_looks_v : Nat → Int32) (t_repeats_v : Nat → Int32) : Int32 × Int32 × Int32 × Int32 × (Nat → Int32) :=
  lxb (l_X2_playBars_2 m_paid t_players t_bars t_noises_v t_kinds_v t_looks_v t_repeats_v (m_playing, m_next, m_taken, m_time, m_wind_v) (itn 0 x1)) (fun r2 =>
  (r2.1, r2.2.1, r2.2.2.1, r2.2.2.2.1, r2.2.2.2.2))

def f_X2_takeGift (x0 : Int32) (m_hat : Int32) : Int32 × Int32 :=
  if x0 < 1 then (0, m_hat)
  else if x0 ≤ 9 then (lxb ((if (m_hat + x0) < 99 then (m_hat + x0) else 99)) (fun y1 =>
    (1, y1)))
   else (0, m_hat)
theorem z_X2_takeGift {x0 : Int32} {m_hat : Int32} {r : Int32 × Int32} (er : r = f_X2_takeGift x0 m_hat) : narrow .boolean (.int r.1) = .int r.1 := by
  subst er
  simp only [f_X2_takeGift, lxb]
  repeat' split
  all_goals first | exact (by decide : narrow .boolean (.int (0 : Int32)) = .int 0) | exact (by decide : narrow .boolean (.int (1 : Int32)) = .int 1)

def f_X2_payFromHat (x1 : Int32) (m_playing : Int32) (m_paid : Int32) (m_hat : Int32) (t_players : Int32) (t_prices_v : Nat → Int32) : Int32 × Int32 × Int32 × Int32 :=
  lxb (f_X3_hasPlayer x1 t_players) (fun r1 =>
  if r1 = 0 then (0, m_playing, m_paid, m_hat)
   else lxb (f_X2_isPlaying x1 m_playing) (fun r2 =>
    if r2 = 0 then (0, m_playing, m_paid, m_hat)
     else lxb (f_X4_at x1 6 t_prices_v) (fun r3 =>
      if r3 ≤ m_hat then (lxb (f_X4_at x1 6 t_prices_v) (fun r4 =>
        lxb (f_X2_payFreely (1 <<< (x1 &&& 31)) m_playing m_paid) (fun r5 =>
         (1, r5.1, r5.2, (m_hat - r4)))))
       else (0, m_playing, m_paid, m_hat))))
theorem z_X2_payFromHat {x1 : Int32} {m_playing : Int32} {m_paid : Int32} {m_hat : Int32} {t_players : Int32} {t_prices_v : Nat → Int32} {r : Int32 × Int32 × Int32 × Int32} (er : r = f_X2_payFromHat x1 m_playing m_paid m_hat t_players t_prices_v) : narrow .boolean (.int r.1) = .int r.1 := by
  subst er
  simp only [f_X2_payFromHat, lxb]
  repeat' split
  all_goals first | exact (by decide : narrow .boolean (.int (0 : Int32)) = .int 0) | exact (by decide : narrow .boolean (.int (1 : Int32)) = .int 1)

def f_X2_restPlayer (x1 : Int32) (m_playing : Int32) (m_paid : Int32) (t_players : Int32) (t_winds_v : Nat → Int32) (m_wind_v : Nat → Int32) : Int32 × Int32 × (Nat → Int32) :=
  lxb (f_X3_hasPlayer x1 t_players) (fun r1 =>
  if r1 = 0 then (0, m_playing, m_wind_v)
   else lxb (f_X2_isTired x1 m_playing m_paid) (fun r2 =>
    if r2 = 0 then (0, m_playing, m_wind_v)
     else lxb (f_X4_at x1 6 t_winds_v) (fun r3 =>
      if r3 = 0 then (0, m_playing, m_wind_v)
       else lxb (f_X4_at x1 6 t_winds_v) (fun r4 =>
        lxb (f_X4_put x1 r4 6 m_wind_v) (fun r5 =>
         lxb ((m_playing ||| (1 <<< (x1 &&& 31)))) (fun y6 =>
          (1, y6, r5)))))))
theorem z_X2_restPlayer {x1 : Int32} {m_playing : Int32} {m_paid : Int32} {t_players : Int32} {t_winds_v : Nat → Int32} {m_wind_v : Nat → Int32} {r : Int32 × Int32 × (Nat → Int32)} (er : r = f_X2_restPlayer x1 m_playing m_paid t_players t_winds_v m_wind_v) : narrow .boolean (.int r.1) = .int r.1 := by
  subst er
  simp only [f_X2_restPlayer, lxb]
  repeat' split
  all_goals first | exact (by decide : narrow .boolean (.int (0 : Int32)) = .int 0) | exact (by decide : narrow .boolean (.int (1 : Int32)) = .int 1)

def f_X2_beginAgain (m_next : Int32) (m_taken : Int32) (t_bars : Int32) : Int32 × Int32 × Int32 :=
  if t_bars = 0 then (0, m_next, m_taken)
  else (1, 0, 0)

def f_X2_doIfItCanBe (x1 : Int32) (m_playing : Int32) (m_paid : Int32) (m_next : Int32) (m_taken : Int32) (m_hat : Int32) (m_time : Int32) (t_players : Int32) (t_bars : Int32) (t_noises_v : Nat → Int32) (t_kinds_v : Nat → Int32) (m_wind_v : Nat → Int32) (t_looks_v : Nat → Int32) (t_repeats_v : Nat → Int32) (t_prices_v : Nat → Int32) (t_winds_v : Nat → Int32) : Int32 × Int32 × Int32 × Int32 × Int32 × Int32 × Int32 × (Nat → Int32) :=
  if (x1 / 100) = 5 then (if m_hat < (x1 - x1 / 100 * 100) then (0, m_playing, m_paid, m_next, m_taken, m_hat, m_time, m_wind_v)
   else (1, m_playing, m_paid, m_next, m_taken, m_hat, m_time, m_wind_v))
  else if ((x1 / 10) - (x1 / 10) / 10 * 10) = 0 then (if (x1 / 100) = 0 then (if (x1 - x1 / 10 * 10) = 0 then (lxb (f_X2_playBar m_playing m_paid m_next m_taken m_time t_players t_bars t_noises_v t_kinds_v m_wind_v t_looks_v t_repeats_v) (fun r1 =>
      if r1.1 = 0 then (0, r1.2.1, m_paid, r1.2.2.1, r1.2.2.2.1, m_hat, r1.2.2.2.2.1, r1.2.2.2.2.2)
       else (1, r1.2.1, m_paid, r1.2.2.1, r1.2.2.2.1, m_hat, r1.2.2.2.2.1, r1.2.2.2.2.2)))
     else (0, m_playing, m_paid, m_next, m_taken, m_hat, m_time, m_wind_v))
    else if (x1 / 100) = 1 then (lxb (f_X2_takeGift (x1 - x1 / 10 * 10) m_hat) (fun r2 =>
      (r2.1, m_playing, m_paid, m_next, m_taken, r2.2, m_time, m_wind_v)))
     else if (x1 / 100) = 2 then (lxb (f_X2_payFromHat (x1 - x1 / 10 * 10) m_playing m_paid m_hat t_players t_prices_v) (fun r3 =>
       (r3.1, r3.2.1, r3.2.2.1, m_next, m_taken, r3.2.2.2, m_time, m_wind_v)))
      else if (x1 / 100) = 3 then (lxb (f_X2_restPlayer (x1 - x1 / 10 * 10) m_playing m_paid t_players t_winds_v m_wind_v) (fun r4 =>
        (r4.1, r4.2.1, m_paid, m_next, m_taken, m_hat, m_time, r4.2.2)))
       else if (x1 / 100) = 4 then (lxb (f_X3_hasPlayer (x1 - x1 / 10 * 10) t_players) (fun r5 =>
         if r5 = 0 then (0, m_playing, m_paid, m_next, m_taken, m_hat, m_time, m_wind_v)
          else lxb (f_X2_isPlaying (x1 - x1 / 10 * 10) m_playing) (fun r6 =>
           if r6 = 0 then (0, m_playing, m_paid, m_next, m_taken, m_hat, m_time, m_wind_v)
            else (1, m_playing, m_paid, m_next, m_taken, m_hat, m_time, m_wind_v))))
        else (0, m_playing, m_paid, m_next, m_taken, m_hat, m_time, m_wind_v))
   else (0, m_playing, m_paid, m_next, m_taken, m_hat, m_time, m_wind_v)

def f_X2_doByChance (x1 : Int32) (m_playing : Int32) (m_paid : Int32) (m_next : Int32) (m_taken : Int32) (m_hat : Int32) (m_time : Int32) (t_players : Int32) (t_bars : Int32) (t_noises_v : Nat → Int32) (t_kinds_v : Nat → Int32) (m_wind_v : Nat → Int32) (t_looks_v : Nat → Int32) (t_repeats_v : Nat → Int32) (t_winds_v : Nat → Int32) (t_prices_v : Nat → Int32) : Int32 × Int32 × Int32 × Int32 × Int32 × Int32 × (Nat → Int32) :=
  if 6 ≤ x1 then (if 12 ≤ x1 then (if 15 ≤ x1 then (if x1 = 15 then (lxb (f_X2_beginAgain m_next m_taken t_bars) (fun r2 =>
      (m_playing, m_paid, r2.2.1, r2.2.2, m_hat, m_time, m_wind_v)))
     else lxb (f_X2_playBar m_playing m_paid m_next m_taken m_time t_players t_bars t_noises_v t_kinds_v m_wind_v t_looks_v t_repeats_v) (fun r1 =>
      (r1.2.1, m_paid, r1.2.2.1, r1.2.2.2.1, m_hat, r1.2.2.2.2.1, r1.2.2.2.2.2)))
    else lxb (f_X2_takeGift (x1 - 11) m_hat) (fun r3 =>
     (m_playing, m_paid, m_next, m_taken, r3.2, m_time, m_wind_v)))
   else lxb (f_X2_restPlayer (x1 - 6) m_playing m_paid t_players t_winds_v m_wind_v) (fun r4 =>
    (r4.2.1, m_paid, m_next, m_taken, m_hat, m_time, r4.2.2)))
  else lxb (f_X2_payFromHat x1 m_playing m_paid m_hat t_players t_prices_v) (fun r5 =>
   (r5.2.1, r5.2.2.1, m_next, m_taken, r5.2.2.2, m_time, m_wind_v))
set_option maxHeartbeats 4000000 in
set_option maxRecDepth 100000 in
theorem c_X2_isPlaying (l : Launch) (dC : Nat → ClassId) (dI : Nat → Nat → Nat) (cI cZ cM : ClassId) (sz : Nat) (m_h : Nat) (x0 : Int32) (m_playing : Int32) (m_paid : Int32) (m_next : Int32) (m_taken : Int32) (m_hat : Int32) (m_time : Int32) (m_wind : Nat) (u : Int32) (hu : u = f_X2_isPlaying x0 m_playing) : Met l yX2_isPlaying wsX2_isPlaying { frames := 0, cells := 0, slots := 0, locals := 0 } (hgPc [.ref m_h, .int x0] (dC, dI) cI cZ cM [(m_h, .inr (2, [.int m_playing, .int m_paid, .int m_next, .int m_taken, .int m_hat, .int m_time, .ref m_wind]))] sz) (hgQi (dC, dI) u [(m_h, .inr (2, [.int m_playing, .int m_paid, .int m_next, .int m_taken, .int m_hat, .int m_time, .ref m_wind]))] (va_A [(m_h, .inr (2, [.int m_playing, .int m_paid, .int m_next, .int m_taken, .int m_hat, .int m_time, .ref m_wind]))] sz)) 0 0 (va_A [(m_h, .inr (2, [.int m_playing, .int m_paid, .int m_next, .int m_taken, .int m_hat, .int m_time, .ref m_wind]))] sz) := by
  refine hg_ofW (cc := cX2_isPlaying) (maxL := 2) (ret := (some .boolean)) (own := RX2) (fun A => hgQi (dC, dI) u [(m_h, .inr (2, [.int m_playing, .int m_paid, .int m_next, .int m_taken, .int m_hat, .int m_time, .ref m_wind]))] A) rfl (by decide) rfl (Nat.le_of_ble_eq_true rfl) ?_
  intro p e s m below meth c ls A hsz hx hb hr hml hown hts hlk hnm hK hN hA hP hD hS hl
  subst hsz
  have w1 := hts (.fieldLink RX2 21 "HatGoesRound$Moment" "playing" "I") (List.mem_of_getElem? (i := 1) rfl)
  have hinX2 : ∀ w ∈ u_ws RX2 TX2 7, w ∈ wsX2_isPlaying := fun _ h => List.mem_cons_of_mem _ (List.mem_append_right _ h)
  have hl : lv_has ls 2 [(0, .ref m_h), (1, .int x0)] := hl
  unfold f_X2_isPlaying at hu
  refine lv_aload_n hx hb dX2_isPlaying_0 rfl (lv_at hl 0 rfl) ?_
  refine va_get (D := (dC, dI)) (ci := 2) (v := .int m_playing) (C := RX2) (T := TX2) (N := 7) hx hb hts hinX2 hown hK hP 0 rfl rfl 0 (by decide) w1 (fun _ h9 => h9) rfl dX2_isPlaying_1 ?_
  refine lv_iload_n hx hb dX2_isPlaying_4 rfl (lv_at hl 1 rfl) ?_
  refine lv_ishr hx hb dX2_isPlaying_5 ?_
  refine lv_iconst (v := 1) hx hb dX2_isPlaying_6 (by decide) ?_
  refine lv_iand hx hb dX2_isPlaying_7 ?_
  refine lv_iconst (v := 1) hx hb dX2_isPlaying_8 (by decide) ?_
  refine lv_icmp_ne (tgt := 16) hx hb dX2_isPlaying_9 (by decide) (fun c_9 => ?_) (fun c_9 => ?_)
  · have hu := hu.trans (if_neg c_9)
    refine lv_iconst (v := 0) hx hb dX2_isPlaying_16 (by decide) ?_
    subst hu
    exact hg_rz hx hb hr hlk (by decide) rfl hP hD hS dX2_isPlaying_17
  · have hu := hu.trans (if_pos c_9)
    refine lv_iconst (v := 1) hx hb dX2_isPlaying_12 (by decide) ?_
    refine lv_goto (tgt := 17) hx hb dX2_isPlaying_13 (by decide) ?_
    subst hu
    exact hg_rz hx hb hr hlk (by decide) rfl hP hD hS dX2_isPlaying_17

set_option maxHeartbeats 4000000 in
set_option maxRecDepth 100000 in
theorem c_X2_isPaid (l : Launch) (dC : Nat → ClassId) (dI : Nat → Nat → Nat) (cI cZ cM : ClassId) (sz : Nat) (m_h : Nat) (x0 : Int32) (m_playing : Int32) (m_paid : Int32) (m_next : Int32) (m_taken : Int32) (m_hat : Int32) (m_time : Int32) (m_wind : Nat) (u : Int32) (hu : u = f_X2_isPaid x0 m_paid) : Met l yX2_isPaid wsX2_isPaid { frames := 0, cells := 0, slots := 0, locals := 0 } (hgPc [.ref m_h, .int x0] (dC, dI) cI cZ cM [(m_h, .inr (2, [.int m_playing, .int m_paid, .int m_next, .int m_taken, .int m_hat, .int m_time, .ref m_wind]))] sz) (hgQi (dC, dI) u [(m_h, .inr (2, [.int m_playing, .int m_paid, .int m_next, .int m_taken, .int m_hat, .int m_time, .ref m_wind]))] (va_A [(m_h, .inr (2, [.int m_playing, .int m_paid, .int m_next, .int m_taken, .int m_hat, .int m_time, .ref m_wind]))] sz)) 0 0 (va_A [(m_h, .inr (2, [.int m_playing, .int m_paid, .int m_next, .int m_taken, .int m_hat, .int m_time, .ref m_wind]))] sz) := by
  refine hg_ofW (cc := cX2_isPaid) (maxL := 2) (ret := (some .boolean)) (own := RX2) (fun A => hgQi (dC, dI) u [(m_h, .inr (2, [.int m_playing, .int m_paid, .int m_next, .int m_taken, .int m_hat, .int m_time, .ref m_wind]))] A) rfl (by decide) rfl (Nat.le_of_ble_eq_true rfl) ?_
  intro p e s m below meth c ls A hsz hx hb hr hml hown hts hlk hnm hK hN hA hP hD hS hl
  subst hsz
  have w1 := hts (.fieldLink RX2 25 "HatGoesRound$Moment" "paid" "I") (List.mem_of_getElem? (i := 1) rfl)
  have hinX2 : ∀ w ∈ u_ws RX2 TX2 7, w ∈ wsX2_isPaid := fun _ h => List.mem_cons_of_mem _ (List.mem_append_right _ h)
  have hl : lv_has ls 2 [(0, .ref m_h), (1, .int x0)] := hl
  unfold f_X2_isPaid at hu
  refine lv_aload_n hx hb dX2_isPaid_0 rfl (lv_at hl 0 rfl) ?_
  refine va_get (D := (dC, dI)) (ci := 2) (v := .int m_paid) (C := RX2) (T := TX2) (N := 7) hx hb hts hinX2 hown hK hP 0 rfl rfl 1 (by decide) w1 (fun _ h9 => h9) rfl dX2_isPaid_1 ?_
  refine lv_iload_n hx hb dX2_isPaid_4 rfl (lv_at hl 1 rfl) ?_
  refine lv_ishr hx hb dX2_isPaid_5 ?_
  refine lv_iconst (v := 1) hx hb dX2_isPaid_6 (by decide) ?_
  refine lv_iand hx hb dX2_isPaid_7 ?_
  refine lv_iconst (v := 1) hx hb dX2_isPaid_8 (by decide) ?_
  refine lv_icmp_ne (tgt := 16) hx hb dX2_isPaid_9 (by decide) (fun c_9 => ?_) (fun c_9 => ?_)
  · have hu := hu.trans (if_neg c_9)
    refine lv_iconst (v := 0) hx hb dX2_isPaid_16 (by decide) ?_
    subst hu
    exact hg_rz hx hb hr hlk (by decide) rfl hP hD hS dX2_isPaid_17
  · have hu := hu.trans (if_pos c_9)
    refine lv_iconst (v := 1) hx hb dX2_isPaid_12 (by decide) ?_
    refine lv_goto (tgt := 17) hx hb dX2_isPaid_13 (by decide) ?_
    subst hu
    exact hg_rz hx hb hr hlk (by decide) rfl hP hD hS dX2_isPaid_17

set_option maxHeartbeats 4000000 in
set_option maxRecDepth 100000 in
theorem c_X2_isTaken (l : Launch) (dC : Nat → ClassId) (dI : Nat → Nat → Nat) (cI cZ cM : ClassId) (sz : Nat) (m_h : Nat) (x0 : Int32) (m_playing : Int32) (m_paid : Int32) (m_next : Int32) (m_taken : Int32) (m_hat : Int32) (m_time : Int32) (m_wind : Nat) (u : Int32) (hu : u = f_X2_isTaken x0 m_taken) : Met l yX2_isTaken wsX2_isTaken { frames := 0, cells := 0, slots := 0, locals := 0 } (hgPc [.ref m_h, .int x0] (dC, dI) cI cZ cM [(m_h, .inr (2, [.int m_playing, .int m_paid, .int m_next, .int m_taken, .int m_hat, .int m_time, .ref m_wind]))] sz) (hgQi (dC, dI) u [(m_h, .inr (2, [.int m_playing, .int m_paid, .int m_next, .int m_taken, .int m_hat, .int m_time, .ref m_wind]))] (va_A [(m_h, .inr (2, [.int m_playing, .int m_paid, .int m_next, .int m_taken, .int m_hat, .int m_time, .ref m_wind]))] sz)) 0 0 (va_A [(m_h, .inr (2, [.int m_playing, .int m_paid, .int m_next, .int m_taken, .int m_hat, .int m_time, .ref m_wind]))] sz) := by
  refine hg_ofW (cc := cX2_isTaken) (maxL := 2) (ret := (some .boolean)) (own := RX2) (fun A => hgQi (dC, dI) u [(m_h, .inr (2, [.int m_playing, .int m_paid, .int m_next, .int m_taken, .int m_hat, .int m_time, .ref m_wind]))] A) rfl (by decide) rfl (Nat.le_of_ble_eq_true rfl) ?_
  intro p e s m below meth c ls A hsz hx hb hr hml hown hts hlk hnm hK hN hA hP hD hS hl
  subst hsz
  have w1 := hts (.fieldLink RX2 31 "HatGoesRound$Moment" "taken" "I") (List.mem_of_getElem? (i := 1) rfl)
  have hinX2 : ∀ w ∈ u_ws RX2 TX2 7, w ∈ wsX2_isTaken := fun _ h => List.mem_cons_of_mem _ (List.mem_append_right _ h)
  have hl : lv_has ls 2 [(0, .ref m_h), (1, .int x0)] := hl
  unfold f_X2_isTaken at hu
  refine lv_aload_n hx hb dX2_isTaken_0 rfl (lv_at hl 0 rfl) ?_
  refine va_get (D := (dC, dI)) (ci := 2) (v := .int m_taken) (C := RX2) (T := TX2) (N := 7) hx hb hts hinX2 hown hK hP 0 rfl rfl 3 (by decide) w1 (fun _ h9 => h9) rfl dX2_isTaken_1 ?_
  refine lv_iload_n hx hb dX2_isTaken_4 rfl (lv_at hl 1 rfl) ?_
  refine lv_ishr hx hb dX2_isTaken_5 ?_
  refine lv_iconst (v := 1) hx hb dX2_isTaken_6 (by decide) ?_
  refine lv_iand hx hb dX2_isTaken_7 ?_
  refine lv_iconst (v := 1) hx hb dX2_isTaken_8 (by decide) ?_
  refine lv_icmp_ne (tgt := 16) hx hb dX2_isTaken_9 (by decide) (fun c_9 => ?_) (fun c_9 => ?_)
  · have hu := hu.trans (if_neg c_9)
    refine lv_iconst (v := 0) hx hb dX2_isTaken_16 (by decide) ?_
    subst hu
    exact hg_rz hx hb hr hlk (by decide) rfl hP hD hS dX2_isTaken_17
  · have hu := hu.trans (if_pos c_9)
    refine lv_iconst (v := 1) hx hb dX2_isTaken_12 (by decide) ?_
    refine lv_goto (tgt := 17) hx hb dX2_isTaken_13 (by decide) ?_
    subst hu
    exact hg_rz hx hb hr hlk (by decide) rfl hP hD hS dX2_isTaken_17

set_option maxHeartbeats 4000000 in
set_option maxRecDepth 100000 in
theorem c_X2_isTired (l : Launch) (dC : Nat → ClassId) (dI : Nat → Nat → Nat) (cI cZ cM : ClassId) (sz : Nat) (m_h : Nat) (x0 : Int32) (m_playing : Int32) (m_paid : Int32) (m_next : Int32) (m_taken : Int32) (m_hat : Int32) (m_time : Int32) (m_wind : Nat) (u : Int32) (hu : u = f_X2_isTired x0 m_playing m_paid) : Met l yX2_isTired wsX2_isTired { frames := 1, cells := 0, slots := 0, locals := 21 } (hgPc [.ref m_h, .int x0] (dC, dI) cI cZ cM [(m_h, .inr (2, [.int m_playing, .int m_paid, .int m_next, .int m_taken, .int m_hat, .int m_time, .ref m_wind]))] sz) (hgQi (dC, dI) u [(m_h, .inr (2, [.int m_playing, .int m_paid, .int m_next, .int m_taken, .int m_hat, .int m_time, .ref m_wind]))] (va_A [(m_h, .inr (2, [.int m_playing, .int m_paid, .int m_next, .int m_taken, .int m_hat, .int m_time, .ref m_wind]))] sz)) 0 0 (va_A [(m_h, .inr (2, [.int m_playing, .int m_paid, .int m_next, .int m_taken, .int m_hat, .int m_time, .ref m_wind]))] sz) := by
  refine hg_ofW (cc := cX2_isTired) (maxL := 2) (ret := (some .boolean)) (own := RX2) (fun A => hgQi (dC, dI) u [(m_h, .inr (2, [.int m_playing, .int m_paid, .int m_next, .int m_taken, .int m_hat, .int m_time, .ref m_wind]))] A) rfl (by decide) rfl (Nat.le_of_ble_eq_true rfl) ?_
  intro p e s m below meth c ls A hsz hx hb hr hml hown hts hlk hnm hK hN hA hP hD hS hl
  subst hsz
  have hl : lv_has ls 2 [(0, .ref m_h), (1, .int x0)] := hl
  unfold f_X2_isTired at hu
  refine lv_aload_n hx hb dX2_isTired_0 rfl (lv_at hl 0 rfl) ?_
  refine lv_iload_n hx hb dX2_isTired_1 rfl (lv_at hl 1 rfl) ?_
  obtain ⟨r1, er1, hu⟩ := lxb_o hu
  refine hg_ci (va_runV (As := [.int x0]) (rest := []) ⟨hx, hb, hml, hown, hts⟩ (c_X2_isPlaying l dC dI cI cZ cM _ m_h x0 m_playing m_paid m_next m_taken m_hat m_time m_wind r1 er1) (cwV 1 hts gX2_isTired_X2_isPlaying rfl rfl rfl (by decide +kernel) ⟨Nat.le_of_ble_eq_true rfl, Nat.le_of_ble_eq_true rfl⟩) (hgPreV (C := RX2) (T := TX2) (N := 7) (ci := 2) (q0 := 0) hP hD hK hN [0] rfl rfl rfl rfl) rfl rfl hl.1 rfl (lv_room (Nat.le_of_ble_eq_true rfl)) dX2_isTired_2 ⟨Nat.zero_le _, Nat.zero_le _⟩) hP hD hS hA (wr := []) (wf := [(m_h, .inr (2, [.int m_playing, .int m_paid, .int m_next, .int m_taken, .int m_hat, .int m_time, .ref m_wind]))]) [0] [] [0] rfl rfl rfl (by decide) rfl rfl (fun H locs hP hD hS => ?_)
  refine lv_if_ne (tgt := 20) hx hb dX2_isTired_5 (by decide) (fun c_5 => ?_) (fun c_5 => ?_)
  · have hu := hu.trans (if_neg c_5)
    refine lv_iconst (v := 0) hx hb dX2_isTired_20 (by decide) ?_
    subst hu
    exact hg_rz hx hb hr hlk (by decide) rfl hP hD hS dX2_isTired_21
  · have hu := hu.trans (if_pos c_5)
    refine lv_aload_n hx hb dX2_isTired_8 rfl (lv_at hl 0 rfl) ?_
    refine lv_iload_n hx hb dX2_isTired_9 rfl (lv_at hl 1 rfl) ?_
    obtain ⟨r2, er2, hu⟩ := lxb_o hu
    refine hg_ci (va_runV (As := [.int x0]) (rest := []) ⟨hx, hb, hml, hown, hts⟩ (c_X2_isPaid l dC dI cI cZ cM _ m_h x0 m_playing m_paid m_next m_taken m_hat m_time m_wind r2 er2) (cwV 1 hts gX2_isTired_X2_isPaid rfl rfl rfl (by decide +kernel) ⟨Nat.le_of_ble_eq_true rfl, Nat.le_of_ble_eq_true rfl⟩) (hgPreV (C := RX2) (T := TX2) (N := 7) (ci := 2) (q0 := 0) hP hD hK hN [0] rfl rfl rfl rfl) rfl rfl hl.1 rfl (lv_room (Nat.le_of_ble_eq_true rfl)) dX2_isTired_10 ⟨Nat.zero_le _, Nat.zero_le _⟩) hP hD hS hA (wr := []) (wf := [(m_h, .inr (2, [.int m_playing, .int m_paid, .int m_next, .int m_taken, .int m_hat, .int m_time, .ref m_wind]))]) [0] [] [0] rfl rfl rfl (by decide) rfl rfl (fun H locs hP hD hS => ?_)
    refine lv_if_ne (tgt := 20) hx hb dX2_isTired_13 (by decide) (fun c_13 => ?_) (fun c_13 => ?_)
    · have hu := hu.trans (if_neg c_13)
      refine lv_iconst (v := 0) hx hb dX2_isTired_20 (by decide) ?_
      subst hu
      exact hg_rz hx hb hr hlk (by decide) rfl hP hD hS dX2_isTired_21
    · have hu := hu.trans (if_pos c_13)
      refine lv_iconst (v := 1) hx hb dX2_isTired_16 (by decide) ?_
      refine lv_goto (tgt := 21) hx hb dX2_isTired_17 (by decide) ?_
      subst hu
      exact hg_rz hx hb hr hlk (by decide) rfl hP hD hS dX2_isTired_21

set_option maxHeartbeats 4000000 in
set_option maxRecDepth 100000 in
theorem c_X2_isSetOfPlaying (l : Launch) (dC : Nat → ClassId) (dI : Nat → Nat → Nat) (cI cZ cM : ClassId) (sz : Nat) (m_h : Nat) (x0 : Int32) (m_playing : Int32) (m_paid : Int32) (m_next : Int32) (m_taken : Int32) (m_hat : Int32) (m_time : Int32) (m_wind : Nat) (u : Int32) (hu : u = f_X2_isSetOfPlaying x0 m_playing) : Met l yX2_isSetOfPlaying wsX2_isSetOfPlaying { frames := 0, cells := 0, slots := 0, locals := 0 } (hgPc [.ref m_h, .int x0] (dC, dI) cI cZ cM [(m_h, .inr (2, [.int m_playing, .int m_paid, .int m_next, .int m_taken, .int m_hat, .int m_time, .ref m_wind]))] sz) (hgQi (dC, dI) u [(m_h, .inr (2, [.int m_playing, .int m_paid, .int m_next, .int m_taken, .int m_hat, .int m_time, .ref m_wind]))] (va_A [(m_h, .inr (2, [.int m_playing, .int m_paid, .int m_next, .int m_taken, .int m_hat, .int m_time, .ref m_wind]))] sz)) 0 0 (va_A [(m_h, .inr (2, [.int m_playing, .int m_paid, .int m_next, .int m_taken, .int m_hat, .int m_time, .ref m_wind]))] sz) := by
  refine hg_ofW (cc := cX2_isSetOfPlaying) (maxL := 2) (ret := (some .boolean)) (own := RX2) (fun A => hgQi (dC, dI) u [(m_h, .inr (2, [.int m_playing, .int m_paid, .int m_next, .int m_taken, .int m_hat, .int m_time, .ref m_wind]))] A) rfl (by decide) rfl (Nat.le_of_ble_eq_true rfl) ?_
  intro p e s m below meth c ls A hsz hx hb hr hml hown hts hlk hnm hK hN hA hP hD hS hl
  subst hsz
  have w1 := hts (.fieldLink RX2 21 "HatGoesRound$Moment" "playing" "I") (List.mem_of_getElem? (i := 1) rfl)
  have hinX2 : ∀ w ∈ u_ws RX2 TX2 7, w ∈ wsX2_isSetOfPlaying := fun _ h => List.mem_cons_of_mem _ (List.mem_append_right _ h)
  have hl : lv_has ls 2 [(0, .ref m_h), (1, .int x0)] := hl
  unfold f_X2_isSetOfPlaying at hu
  refine lv_iload_n hx hb dX2_isSetOfPlaying_0 rfl (lv_at hl 1 rfl) ?_
  refine lv_aload_n hx hb dX2_isSetOfPlaying_1 rfl (lv_at hl 0 rfl) ?_
  refine va_get (D := (dC, dI)) (ci := 2) (v := .int m_playing) (C := RX2) (T := TX2) (N := 7) hx hb hts hinX2 hown hK hP 0 rfl rfl 0 (by decide) w1 (fun _ h9 => h9) rfl dX2_isSetOfPlaying_2 ?_
  refine lv_iconst (v := (-1)) hx hb dX2_isSetOfPlaying_5 (by decide) ?_
  refine lv_ixor hx hb dX2_isSetOfPlaying_6 ?_
  refine lv_iand hx hb dX2_isSetOfPlaying_7 ?_
  refine lv_if_ne (tgt := 15) hx hb dX2_isSetOfPlaying_8 (by decide) (fun c_8 => ?_) (fun c_8 => ?_)
  · have hu := hu.trans (if_neg c_8)
    refine lv_iconst (v := 0) hx hb dX2_isSetOfPlaying_15 (by decide) ?_
    subst hu
    exact hg_rz hx hb hr hlk (by decide) rfl hP hD hS dX2_isSetOfPlaying_16
  · have hu := hu.trans (if_pos c_8)
    refine lv_iconst (v := 1) hx hb dX2_isSetOfPlaying_11 (by decide) ?_
    refine lv_goto (tgt := 16) hx hb dX2_isSetOfPlaying_12 (by decide) ?_
    subst hu
    exact hg_rz hx hb hr hlk (by decide) rfl hP hD hS dX2_isSetOfPlaying_16

set_option maxHeartbeats 4000000 in
set_option maxRecDepth 100000 in
theorem c_X2_tired (l : Launch) (dC : Nat → ClassId) (dI : Nat → Nat → Nat) (cI cZ cM : ClassId) (sz : Nat) (m_h : Nat) (t_h : Nat) (m_playing : Int32) (m_paid : Int32) (m_next : Int32) (m_taken : Int32) (m_hat : Int32) (m_time : Int32) (m_wind : Nat) (t_players : Int32) (t_bars : Int32) (t_prices : Nat) (t_winds : Nat) (t_kinds : Nat) (t_looks : Nat) (t_noises : Nat) (t_repeats : Nat) (u : Int32) (hu : u = f_X2_tired m_playing m_paid t_players) : Met l yX2_tired wsX2_tired { frames := 1, cells := 0, slots := 0, locals := 20 } (hgPc [.ref m_h, .ref t_h] (dC, dI) cI cZ cM [(m_h, .inr (2, [.int m_playing, .int m_paid, .int m_next, .int m_taken, .int m_hat, .int m_time, .ref m_wind])), (t_h, .inr (3, [.int t_players, .int t_bars, .ref t_prices, .ref t_winds, .ref t_kinds, .ref t_looks, .ref t_noises, .ref t_repeats]))] sz) (hgQi (dC, dI) u [(m_h, .inr (2, [.int m_playing, .int m_paid, .int m_next, .int m_taken, .int m_hat, .int m_time, .ref m_wind])), (t_h, .inr (3, [.int t_players, .int t_bars, .ref t_prices, .ref t_winds, .ref t_kinds, .ref t_looks, .ref t_noises, .ref t_repeats]))] (va_A [(m_h, .inr (2, [.int m_playing, .int m_paid, .int m_next, .int m_taken, .int m_hat, .int m_time, .ref m_wind])), (t_h, .inr (3, [.int t_players, .int t_bars, .ref t_prices, .ref t_winds, .ref t_kinds, .ref t_looks, .ref t_noises, .ref t_repeats]))] sz)) 0 0 (va_A [(m_h, .inr (2, [.int m_playing, .int m_paid, .int m_next, .int m_taken, .int m_hat, .int m_time, .ref m_wind])), (t_h, .inr (3, [.int t_players, .int t_bars, .ref t_prices, .ref t_winds, .ref t_kinds, .ref t_looks, .ref t_noises, .ref t_repeats]))] sz) := by
  refine hg_ofW (cc := cX2_tired) (maxL := 2) (ret := (some .int)) (own := RX2) (fun A => hgQi (dC, dI) u [(m_h, .inr (2, [.int m_playing, .int m_paid, .int m_next, .int m_taken, .int m_hat, .int m_time, .ref m_wind])), (t_h, .inr (3, [.int t_players, .int t_bars, .ref t_prices, .ref t_winds, .ref t_kinds, .ref t_looks, .ref t_noises, .ref t_repeats]))] A) rfl (by decide) rfl (Nat.le_of_ble_eq_true rfl) ?_
  intro p e s m below meth c ls A hsz hx hb hr hml hown hts hlk hnm hK hN hA hP hD hS hl
  subst hsz
  have w1 := hts (.fieldLink RX2 21 "HatGoesRound$Moment" "playing" "I") (List.mem_of_getElem? (i := 1) rfl)
  have hinX2 : ∀ w ∈ u_ws RX2 TX2 7, w ∈ wsX2_tired := fun _ h => List.mem_cons_of_mem _ (List.mem_append_left _ (List.mem_append_right _ h))
  have w2 := hts (.fieldLink RX2 25 "HatGoesRound$Moment" "paid" "I") (List.mem_of_getElem? (i := 2) rfl)
  have hl : lv_has ls 2 [(0, .ref m_h), (1, .ref t_h)] := hl
  unfold f_X2_tired at hu
  refine lv_aload_n hx hb dX2_tired_0 rfl (lv_at hl 1 rfl) ?_
  obtain ⟨r1, er1, hu⟩ := lxb_o hu
  refine hg_ci (va_runV (As := []) (rest := []) ⟨hx, hb, hml, hown, hts⟩ (c_X3_everybody l dC dI cI cZ cM _ t_h t_players t_bars t_prices t_winds t_kinds t_looks t_noises t_repeats r1 er1) (cwV 0 hts gX2_tired_X3_everybody rfl rfl rfl (by decide +kernel) ⟨Nat.le_of_ble_eq_true rfl, Nat.le_of_ble_eq_true rfl⟩) (hgPreV (C := RX3) (T := TX3) (N := 8) (ci := 3) (q0 := 1) hP hD hK hN [1] rfl rfl rfl rfl) rfl rfl hl.1 rfl (lv_room (Nat.le_of_ble_eq_true rfl)) dX2_tired_1 ⟨Nat.zero_le _, Nat.zero_le _⟩) hP hD hS hA (wr := [(m_h, .inr (2, [.int m_playing, .int m_paid, .int m_next, .int m_taken, .int m_hat, .int m_time, .ref m_wind]))]) (wf := [(m_h, .inr (2, [.int m_playing, .int m_paid, .int m_next, .int m_taken, .int m_hat, .int m_time, .ref m_wind])), (t_h, .inr (3, [.int t_players, .int t_bars, .ref t_prices, .ref t_winds, .ref t_kinds, .ref t_looks, .ref t_noises, .ref t_repeats]))]) [1] [0] [0, 1] rfl rfl rfl (by decide) rfl rfl (fun H locs hP hD hS => ?_)
  refine lv_aload_n hx hb dX2_tired_4 rfl (lv_at hl 0 rfl) ?_
  refine va_get (D := (dC, dI)) (ci := 2) (v := .int m_playing) (C := RX2) (T := TX2) (N := 7) hx hb hts hinX2 hown hK hP 0 rfl rfl 0 (by decide) w1 (fun _ h9 => h9) rfl dX2_tired_5 ?_
  refine lv_iconst (v := (-1)) hx hb dX2_tired_8 (by decide) ?_
  refine lv_ixor hx hb dX2_tired_9 ?_
  refine lv_iand hx hb dX2_tired_10 ?_
  refine lv_aload_n hx hb dX2_tired_11 rfl (lv_at hl 0 rfl) ?_
  refine va_get (D := (dC, dI)) (ci := 2) (v := .int m_paid) (C := RX2) (T := TX2) (N := 7) hx hb hts hinX2 hown hK hP 0 rfl rfl 1 (by decide) w2 (fun _ h9 => h9) rfl dX2_tired_12 ?_
  refine lv_iconst (v := (-1)) hx hb dX2_tired_15 (by decide) ?_
  refine lv_ixor hx hb dX2_tired_16 ?_
  refine lv_iand hx hb dX2_tired_17 ?_
  subst hu
  exact hg_ri hx hb hr hlk rfl hP hD hS dX2_tired_18

set_option maxHeartbeats 4000000 in
set_option maxRecDepth 100000 in
theorem c_X2_windOf (l : Launch) (dC : Nat → ClassId) (dI : Nat → Nat → Nat) (cI cZ cM : ClassId) (sz : Nat) (m_h : Nat) (x0 : Int32) (m_playing : Int32) (m_paid : Int32) (m_next : Int32) (m_taken : Int32) (m_hat : Int32) (m_time : Int32) (m_wind : Nat) (m_wind_v : Nat → Int32) (u : Int32) (hu : u = f_X2_windOf x0 m_wind_v) : Met l yX2_windOf wsX2_windOf { frames := 1, cells := 0, slots := 0, locals := 21 } (hgPc [.ref m_h, .int x0] (dC, dI) cI cZ cM [(m_h, .inr (2, [.int m_playing, .int m_paid, .int m_next, .int m_taken, .int m_hat, .int m_time, .ref m_wind])), (m_wind, .inl (cI, 6, .inl m_wind_v))] sz) (hgQi (dC, dI) u [(m_h, .inr (2, [.int m_playing, .int m_paid, .int m_next, .int m_taken, .int m_hat, .int m_time, .ref m_wind])), (m_wind, .inl (cI, 6, .inl m_wind_v))] (va_A [(m_h, .inr (2, [.int m_playing, .int m_paid, .int m_next, .int m_taken, .int m_hat, .int m_time, .ref m_wind])), (m_wind, .inl (cI, 6, .inl m_wind_v))] sz)) 0 0 (va_A [(m_h, .inr (2, [.int m_playing, .int m_paid, .int m_next, .int m_taken, .int m_hat, .int m_time, .ref m_wind])), (m_wind, .inl (cI, 6, .inl m_wind_v))] sz) := by
  refine hg_ofW (cc := cX2_windOf) (maxL := 2) (ret := (some .int)) (own := RX2) (fun A => hgQi (dC, dI) u [(m_h, .inr (2, [.int m_playing, .int m_paid, .int m_next, .int m_taken, .int m_hat, .int m_time, .ref m_wind])), (m_wind, .inl (cI, 6, .inl m_wind_v))] A) rfl (by decide) rfl (Nat.le_of_ble_eq_true rfl) ?_
  intro p e s m below meth c ls A hsz hx hb hr hml hown hts hlk hnm hK hN hA hP hD hS hl
  subst hsz
  have w1 := hts (.fieldLink RX2 9 "HatGoesRound$Moment" "wind" "[I") (List.mem_of_getElem? (i := 1) rfl)
  have hinX2 : ∀ w ∈ u_ws RX2 TX2 7, w ∈ wsX2_windOf := fun _ h => List.mem_cons_of_mem _ (List.mem_append_right _ h)
  have w3 := hts (.initialized RX4) (List.mem_of_getElem? (i := 3) rfl)
  have w2 := hts (.static yX4_at) (List.mem_of_getElem? (i := 2) rfl)
  have hl : lv_has ls 2 [(0, .ref m_h), (1, .int x0)] := hl
  unfold f_X2_windOf at hu
  refine lv_aload_n hx hb dX2_windOf_0 rfl (lv_at hl 0 rfl) ?_
  refine va_get (D := (dC, dI)) (ci := 2) (v := .ref m_wind) (C := RX2) (T := TX2) (N := 7) hx hb hts hinX2 hown hK hP 0 rfl rfl 6 (by decide) w1 (fun _ h9 => h9) rfl dX2_windOf_1 ?_
  refine lv_iload_n hx hb dX2_windOf_4 rfl (lv_at hl 1 rfl) ?_
  obtain ⟨r1, er1, hu⟩ := lxb_o hu
  refine hg_ci (va_runSN (As := [.ref m_wind, .int x0]) (rest := []) ⟨hx, hb, hml, hown, hts⟩ (c_X4_at l dC dI cI cZ cM _ m_wind x0 6 m_wind_v (by decide) r1 er1) ⟨va_cnB 2 hts gX2_windOf_X4_at_n47 rfl rfl rfl hN.2.2.1 w3 (by decide +kernel) ⟨Nat.le_of_ble_eq_true rfl, Nat.le_of_ble_eq_true rfl⟩, w2, trivial⟩ (hgPreS hP hD hK hN [1] rfl rfl) rfl rfl hl.1 rfl (lv_room (Nat.le_of_ble_eq_true rfl)) dX2_windOf_5 ⟨Nat.zero_le _, Nat.zero_le _⟩) hP hD hS hA (wr := [(m_h, .inr (2, [.int m_playing, .int m_paid, .int m_next, .int m_taken, .int m_hat, .int m_time, .ref m_wind]))]) (wf := [(m_h, .inr (2, [.int m_playing, .int m_paid, .int m_next, .int m_taken, .int m_hat, .int m_time, .ref m_wind])), (m_wind, .inl (cI, 6, .inl m_wind_v))]) [1] [0] [0, 1] rfl rfl rfl (by decide) rfl rfl (fun H locs hP hD hS => ?_)
  subst hu
  exact hg_ri hx hb hr hlk rfl hP hD hS dX2_windOf_8

set_option maxHeartbeats 4000000 in
set_option maxRecDepth 100000 in
theorem c_X2_howManyPlay (l : Launch) (dC : Nat → ClassId) (dI : Nat → Nat → Nat) (cI cZ cM : ClassId) (sz : Nat) (m_h : Nat) (m_playing : Int32) (m_paid : Int32) (m_next : Int32) (m_taken : Int32) (m_hat : Int32) (m_time : Int32) (m_wind : Nat) (u : Int32) (hu : u = f_X2_howManyPlay m_playing) : Met l yX2_howManyPlay wsX2_howManyPlay { frames := 1, cells := 0, slots := 0, locals := 20 } (hgPc [.ref m_h] (dC, dI) cI cZ cM [(m_h, .inr (2, [.int m_playing, .int m_paid, .int m_next, .int m_taken, .int m_hat, .int m_time, .ref m_wind]))] sz) (hgQi (dC, dI) u [(m_h, .inr (2, [.int m_playing, .int m_paid, .int m_next, .int m_taken, .int m_hat, .int m_time, .ref m_wind]))] (va_A [(m_h, .inr (2, [.int m_playing, .int m_paid, .int m_next, .int m_taken, .int m_hat, .int m_time, .ref m_wind]))] sz)) 0 0 (va_A [(m_h, .inr (2, [.int m_playing, .int m_paid, .int m_next, .int m_taken, .int m_hat, .int m_time, .ref m_wind]))] sz) := by
  refine hg_ofW (cc := cX2_howManyPlay) (maxL := 1) (ret := (some .int)) (own := RX2) (fun A => hgQi (dC, dI) u [(m_h, .inr (2, [.int m_playing, .int m_paid, .int m_next, .int m_taken, .int m_hat, .int m_time, .ref m_wind]))] A) rfl (by decide) rfl (Nat.le_of_ble_eq_true rfl) ?_
  intro p e s m below meth c ls A hsz hx hb hr hml hown hts hlk hnm hK hN hA hP hD hS hl
  subst hsz
  have w1 := hts (.fieldLink RX2 21 "HatGoesRound$Moment" "playing" "I") (List.mem_of_getElem? (i := 1) rfl)
  have hinX2 : ∀ w ∈ u_ws RX2 TX2 7, w ∈ wsX2_howManyPlay := fun _ h => List.mem_cons_of_mem _ (List.mem_append_right _ h)
  have hl : lv_has ls 1 [(0, .ref m_h)] := hl
  unfold f_X2_howManyPlay at hu
  refine lv_aload_n hx hb dX2_howManyPlay_0 rfl (lv_at hl 0 rfl) ?_
  refine va_get (D := (dC, dI)) (ci := 2) (v := .int m_playing) (C := RX2) (T := TX2) (N := 7) hx hb hts hinX2 hown hK hP 0 rfl rfl 0 (by decide) w1 (fun _ h9 => h9) rfl dX2_howManyPlay_1 ?_
  obtain ⟨r1, er1, hu⟩ := lxb_o hu
  refine hg_ci (va_runS (As := [.int m_playing]) (rest := []) ⟨hx, hb, hml, hown, hts⟩ (c_J6_bitCount l dC dI cI cZ cM _ m_playing r1 er1) (va_cwS 1 hts gX2_howManyPlay_J6_bitCount_0f7a4 rfl rfl rfl (by decide +kernel) ⟨Nat.le_of_ble_eq_true rfl, Nat.le_of_ble_eq_true rfl⟩) (hgPreS hP hD hK hN [] rfl rfl) rfl rfl hl.1 rfl (lv_room (Nat.le_of_ble_eq_true rfl)) dX2_howManyPlay_4 ⟨Nat.zero_le _, Nat.zero_le _⟩) hP hD hS hA (wr := [(m_h, .inr (2, [.int m_playing, .int m_paid, .int m_next, .int m_taken, .int m_hat, .int m_time, .ref m_wind]))]) (wf := [(m_h, .inr (2, [.int m_playing, .int m_paid, .int m_next, .int m_taken, .int m_hat, .int m_time, .ref m_wind]))]) [] [0] [0] rfl rfl rfl (by decide) rfl rfl (fun H locs hP hD hS => ?_)
  subst hu
  exact hg_ri hx hb hr hlk rfl hP hD hS dX2_howManyPlay_7

set_option maxHeartbeats 4000000 in
set_option maxRecDepth 100000 in
theorem c_X2_isSilent (l : Launch) (dC : Nat → ClassId) (dI : Nat → Nat → Nat) (cI cZ cM : ClassId) (sz : Nat) (m_h : Nat) (t_h : Nat) (m_playing : Int32) (m_paid : Int32) (m_next : Int32) (m_taken : Int32) (m_hat : Int32) (m_time : Int32) (m_wind : Nat) (t_players : Int32) (t_bars : Int32) (t_prices : Nat) (t_winds : Nat) (t_kinds : Nat) (t_looks : Nat) (t_noises : Nat) (t_repeats : Nat) (u : Int32) (hu : u = f_X2_isSilent m_playing m_next t_bars) : Met l yX2_isSilent wsX2_isSilent { frames := 0, cells := 0, slots := 0, locals := 0 } (hgPc [.ref m_h, .ref t_h] (dC, dI) cI cZ cM [(m_h, .inr (2, [.int m_playing, .int m_paid, .int m_next, .int m_taken, .int m_hat, .int m_time, .ref m_wind])), (t_h, .inr (3, [.int t_players, .int t_bars, .ref t_prices, .ref t_winds, .ref t_kinds, .ref t_looks, .ref t_noises, .ref t_repeats]))] sz) (hgQi (dC, dI) u [(m_h, .inr (2, [.int m_playing, .int m_paid, .int m_next, .int m_taken, .int m_hat, .int m_time, .ref m_wind])), (t_h, .inr (3, [.int t_players, .int t_bars, .ref t_prices, .ref t_winds, .ref t_kinds, .ref t_looks, .ref t_noises, .ref t_repeats]))] (va_A [(m_h, .inr (2, [.int m_playing, .int m_paid, .int m_next, .int m_taken, .int m_hat, .int m_time, .ref m_wind])), (t_h, .inr (3, [.int t_players, .int t_bars, .ref t_prices, .ref t_winds, .ref t_kinds, .ref t_looks, .ref t_noises, .ref t_repeats]))] sz)) 0 0 (va_A [(m_h, .inr (2, [.int m_playing, .int m_paid, .int m_next, .int m_taken, .int m_hat, .int m_time, .ref m_wind])), (t_h, .inr (3, [.int t_players, .int t_bars, .ref t_prices, .ref t_winds, .ref t_kinds, .ref t_looks, .ref t_noises, .ref t_repeats]))] sz) := by
  refine hg_ofW (cc := cX2_isSilent) (maxL := 2) (ret := (some .boolean)) (own := RX2) (fun A => hgQi (dC, dI) u [(m_h, .inr (2, [.int m_playing, .int m_paid, .int m_next, .int m_taken, .int m_hat, .int m_time, .ref m_wind])), (t_h, .inr (3, [.int t_players, .int t_bars, .ref t_prices, .ref t_winds, .ref t_kinds, .ref t_looks, .ref t_noises, .ref t_repeats]))] A) rfl (by decide) rfl (Nat.le_of_ble_eq_true rfl) ?_
  intro p e s m below meth c ls A hsz hx hb hr hml hown hts hlk hnm hK hN hA hP hD hS hl
  subst hsz
  have w1 := hts (.fieldLink RX2 21 "HatGoesRound$Moment" "playing" "I") (List.mem_of_getElem? (i := 1) rfl)
  have hinX2 : ∀ w ∈ u_ws RX2 TX2 7, w ∈ wsX2_isSilent := fun _ h => List.mem_cons_of_mem _ (List.mem_append_left _ (List.mem_append_right _ h))
  have w2 := hts (.fieldLink RX2 28 "HatGoesRound$Moment" "next" "I") (List.mem_of_getElem? (i := 2) rfl)
  have w3 := hts (.fieldLink RX2 67 "HatGoesRound$Told" "bars" "I") (List.mem_of_getElem? (i := 3) rfl)
  have hinX3 : ∀ w ∈ u_ws RX3 TX3 8, w ∈ wsX2_isSilent := fun _ h => List.mem_cons_of_mem _ (List.mem_append_right _ h)
  have hl : lv_has ls 2 [(0, .ref m_h), (1, .ref t_h)] := hl
  unfold f_X2_isSilent at hu
  refine lv_aload_n hx hb dX2_isSilent_0 rfl (lv_at hl 0 rfl) ?_
  refine va_get (D := (dC, dI)) (ci := 2) (v := .int m_playing) (C := RX2) (T := TX2) (N := 7) hx hb hts hinX2 hown hK hP 0 rfl rfl 0 (by decide) w1 (fun _ h9 => h9) rfl dX2_isSilent_1 ?_
  refine lv_if_eq (tgt := 18) hx hb dX2_isSilent_4 (by decide) (fun c_4 => ?_) (fun c_4 => ?_)
  · have hu := hu.trans (if_pos c_4)
    refine lv_iconst (v := 1) hx hb dX2_isSilent_18 (by decide) ?_
    refine lv_goto (tgt := 23) hx hb dX2_isSilent_19 (by decide) ?_
    subst hu
    exact hg_rz hx hb hr hlk (by decide) rfl hP hD hS dX2_isSilent_23
  · have hu := hu.trans (if_neg c_4)
    refine lv_aload_n hx hb dX2_isSilent_7 rfl (lv_at hl 0 rfl) ?_
    refine va_get (D := (dC, dI)) (ci := 2) (v := .int m_next) (C := RX2) (T := TX2) (N := 7) hx hb hts hinX2 hown hK hP 0 rfl rfl 2 (by decide) w2 (fun _ h9 => h9) rfl dX2_isSilent_8 ?_
    refine lv_aload_n hx hb dX2_isSilent_11 rfl (lv_at hl 1 rfl) ?_
    refine va_get (D := (dC, dI)) (ci := 3) (v := .int t_bars) (C := RX3) (T := TX3) (N := 8) hx hb hts hinX3 hown hK hP 1 rfl rfl 1 (by decide) w3 (fun _ h9 => h9) rfl dX2_isSilent_12 ?_
    refine lv_icmp_lt (tgt := 22) hx hb dX2_isSilent_15 (by decide) (fun c_15 => ?_) (fun c_15 => ?_)
    · have hu := hu.trans (if_pos c_15)
      refine lv_iconst (v := 0) hx hb dX2_isSilent_22 (by decide) ?_
      subst hu
      exact hg_rz hx hb hr hlk (by decide) rfl hP hD hS dX2_isSilent_23
    · have hu := hu.trans (if_neg c_15)
      refine lv_iconst (v := 1) hx hb dX2_isSilent_18 (by decide) ?_
      refine lv_goto (tgt := 23) hx hb dX2_isSilent_19 (by decide) ?_
      subst hu
      exact hg_rz hx hb hr hlk (by decide) rfl hP hD hS dX2_isSilent_23

set_option maxHeartbeats 4000000 in
set_option maxRecDepth 100000 in
theorem c_X2_barToCome (l : Launch) (dC : Nat → ClassId) (dI : Nat → Nat → Nat) (cI cZ cM : ClassId) (sz : Nat) (m_h : Nat) (t_h : Nat) (m_playing : Int32) (m_paid : Int32) (m_next : Int32) (m_taken : Int32) (m_hat : Int32) (m_time : Int32) (m_wind : Nat) (t_players : Int32) (t_bars : Int32) (t_prices : Nat) (t_winds : Nat) (t_kinds : Nat) (t_looks : Nat) (t_noises : Nat) (t_repeats : Nat) (u : Int32) (hu : u = f_X2_barToCome m_playing m_next t_bars) : Met l yX2_barToCome wsX2_barToCome { frames := 1, cells := 0, slots := 0, locals := 21 } (hgPc [.ref m_h, .ref t_h] (dC, dI) cI cZ cM [(m_h, .inr (2, [.int m_playing, .int m_paid, .int m_next, .int m_taken, .int m_hat, .int m_time, .ref m_wind])), (t_h, .inr (3, [.int t_players, .int t_bars, .ref t_prices, .ref t_winds, .ref t_kinds, .ref t_looks, .ref t_noises, .ref t_repeats]))] sz) (hgQi (dC, dI) u [(m_h, .inr (2, [.int m_playing, .int m_paid, .int m_next, .int m_taken, .int m_hat, .int m_time, .ref m_wind])), (t_h, .inr (3, [.int t_players, .int t_bars, .ref t_prices, .ref t_winds, .ref t_kinds, .ref t_looks, .ref t_noises, .ref t_repeats]))] (va_A [(m_h, .inr (2, [.int m_playing, .int m_paid, .int m_next, .int m_taken, .int m_hat, .int m_time, .ref m_wind])), (t_h, .inr (3, [.int t_players, .int t_bars, .ref t_prices, .ref t_winds, .ref t_kinds, .ref t_looks, .ref t_noises, .ref t_repeats]))] sz)) 0 0 (va_A [(m_h, .inr (2, [.int m_playing, .int m_paid, .int m_next, .int m_taken, .int m_hat, .int m_time, .ref m_wind])), (t_h, .inr (3, [.int t_players, .int t_bars, .ref t_prices, .ref t_winds, .ref t_kinds, .ref t_looks, .ref t_noises, .ref t_repeats]))] sz) := by
  refine hg_ofW (cc := cX2_barToCome) (maxL := 2) (ret := (some .int)) (own := RX2) (fun A => hgQi (dC, dI) u [(m_h, .inr (2, [.int m_playing, .int m_paid, .int m_next, .int m_taken, .int m_hat, .int m_time, .ref m_wind])), (t_h, .inr (3, [.int t_players, .int t_bars, .ref t_prices, .ref t_winds, .ref t_kinds, .ref t_looks, .ref t_noises, .ref t_repeats]))] A) rfl (by decide) rfl (Nat.le_of_ble_eq_true rfl) ?_
  intro p e s m below meth c ls A hsz hx hb hr hml hown hts hlk hnm hK hN hA hP hD hS hl
  subst hsz
  have w1 := hts (.fieldLink RX2 28 "HatGoesRound$Moment" "next" "I") (List.mem_of_getElem? (i := 1) rfl)
  have hinX2 : ∀ w ∈ u_ws RX2 TX2 7, w ∈ wsX2_barToCome := fun _ h => List.mem_cons_of_mem _ (List.mem_append_left _ (List.mem_append_right _ h))
  have hl : lv_has ls 2 [(0, .ref m_h), (1, .ref t_h)] := hl
  unfold f_X2_barToCome at hu
  refine lv_aload_n hx hb dX2_barToCome_0 rfl (lv_at hl 0 rfl) ?_
  refine lv_aload_n hx hb dX2_barToCome_1 rfl (lv_at hl 1 rfl) ?_
  obtain ⟨r1, er1, hu⟩ := lxb_o hu
  refine hg_ci (va_runV (As := [.ref t_h]) (rest := []) ⟨hx, hb, hml, hown, hts⟩ (c_X2_isSilent l dC dI cI cZ cM _ m_h t_h m_playing m_paid m_next m_taken m_hat m_time m_wind t_players t_bars t_prices t_winds t_kinds t_looks t_noises t_repeats r1 er1) (cwV 1 hts gX2_barToCome_X2_isSilent rfl rfl rfl (by decide +kernel) ⟨Nat.le_of_ble_eq_true rfl, Nat.le_of_ble_eq_true rfl⟩) (hgPreV (C := RX2) (T := TX2) (N := 7) (ci := 2) (q0 := 0) hP hD hK hN [0, 1] rfl rfl rfl rfl) rfl rfl hl.1 rfl (lv_room (Nat.le_of_ble_eq_true rfl)) dX2_barToCome_2 ⟨Nat.zero_le _, Nat.zero_le _⟩) hP hD hS hA (wr := []) (wf := [(m_h, .inr (2, [.int m_playing, .int m_paid, .int m_next, .int m_taken, .int m_hat, .int m_time, .ref m_wind])), (t_h, .inr (3, [.int t_players, .int t_bars, .ref t_prices, .ref t_winds, .ref t_kinds, .ref t_looks, .ref t_noises, .ref t_repeats]))]) [0, 1] [] [0, 1] rfl rfl rfl (by decide) rfl rfl (fun H locs hP hD hS => ?_)
  refine lv_if_eq (tgt := 13) hx hb dX2_barToCome_5 (by decide) (fun c_5 => ?_) (fun c_5 => ?_)
  · have hu := hu.trans (if_pos c_5)
    refine lv_aload_n hx hb dX2_barToCome_13 rfl (lv_at hl 0 rfl) ?_
    refine va_get (D := (dC, dI)) (ci := 2) (v := .int m_next) (C := RX2) (T := TX2) (N := 7) hx hb hts hinX2 hown hK hP 0 rfl rfl 2 (by decide) w1 (fun _ h9 => h9) rfl dX2_barToCome_14 ?_
    subst hu
    exact hg_ri hx hb hr hlk rfl hP hD hS dX2_barToCome_17
  · have hu := hu.trans (if_neg c_5)
    refine lv_bipush (v := (-9)) hx hb dX2_barToCome_8 (by decide) ?_
    refine lv_goto (tgt := 17) hx hb dX2_barToCome_10 (by decide) ?_
    subst hu
    exact hg_ri hx hb hr hlk rfl hP hD hS dX2_barToCome_17

set_option maxHeartbeats 4000000 in
set_option maxRecDepth 100000 in
theorem c_X2_become (l : Launch) (dC : Nat → ClassId) (dI : Nat → Nat → Nat) (cI cZ cM : ClassId) (sz : Nat) (m_h : Nat) (m2_h : Nat) (m_playing : Int32) (m_paid : Int32) (m_next : Int32) (m_taken : Int32) (m_hat : Int32) (m_time : Int32) (m_wind : Nat) (m2_playing : Int32) (m2_paid : Int32) (m2_next : Int32) (m2_taken : Int32) (m2_hat : Int32) (m2_time : Int32) (m2_wind : Nat) (m2_wind_v : Nat → Int32) (m_wind_v : Nat → Int32) (u : Int32 × Int32 × Int32 × Int32 × Int32 × Int32 × (Nat → Int32)) (hu : u = f_X2_become m2_playing m2_paid m2_next m2_taken m2_hat m2_time m2_wind_v m_wind_v) : Met l yX2_become wsX2_become { frames := 1, cells := 0, slots := 0, locals := 22 } (hgPc [.ref m_h, .ref m2_h] (dC, dI) cI cZ cM [(m_h, .inr (2, [.int m_playing, .int m_paid, .int m_next, .int m_taken, .int m_hat, .int m_time, .ref m_wind])), (m2_h, .inr (2, [.int m2_playing, .int m2_paid, .int m2_next, .int m2_taken, .int m2_hat, .int m2_time, .ref m2_wind])), (m2_wind, .inl (cI, 6, .inl m2_wind_v)), (m_wind, .inl (cI, 6, .inl m_wind_v))] sz) (hgQv (dC, dI) [(m_h, .inr (2, [.int u.1, .int u.2.1, .int u.2.2.1, .int u.2.2.2.1, .int u.2.2.2.2.1, .int u.2.2.2.2.2.1, .ref m_wind])), (m2_h, .inr (2, [.int m2_playing, .int m2_paid, .int m2_next, .int m2_taken, .int m2_hat, .int m2_time, .ref m2_wind])), (m2_wind, .inl (cI, 6, .inl m2_wind_v)), (m_wind, .inl (cI, 6, .inl u.2.2.2.2.2.2))] (va_A [(m_h, .inr (2, [.int m_playing, .int m_paid, .int m_next, .int m_taken, .int m_hat, .int m_time, .ref m_wind])), (m2_h, .inr (2, [.int m2_playing, .int m2_paid, .int m2_next, .int m2_taken, .int m2_hat, .int m2_time, .ref m2_wind])), (m2_wind, .inl (cI, 6, .inl m2_wind_v)), (m_wind, .inl (cI, 6, .inl m_wind_v))] sz)) 0 0 (va_A [(m_h, .inr (2, [.int m_playing, .int m_paid, .int m_next, .int m_taken, .int m_hat, .int m_time, .ref m_wind])), (m2_h, .inr (2, [.int m2_playing, .int m2_paid, .int m2_next, .int m2_taken, .int m2_hat, .int m2_time, .ref m2_wind])), (m2_wind, .inl (cI, 6, .inl m2_wind_v)), (m_wind, .inl (cI, 6, .inl m_wind_v))] sz) := by
  refine hg_ofW (cc := cX2_become) (maxL := 3) (ret := none) (own := RX2) (fun A => hgQv (dC, dI) [(m_h, .inr (2, [.int u.1, .int u.2.1, .int u.2.2.1, .int u.2.2.2.1, .int u.2.2.2.2.1, .int u.2.2.2.2.2.1, .ref m_wind])), (m2_h, .inr (2, [.int m2_playing, .int m2_paid, .int m2_next, .int m2_taken, .int m2_hat, .int m2_time, .ref m2_wind])), (m2_wind, .inl (cI, 6, .inl m2_wind_v)), (m_wind, .inl (cI, 6, .inl u.2.2.2.2.2.2))] A) rfl (by decide) rfl (Nat.le_of_ble_eq_true rfl) ?_
  intro p e s m below meth c ls A hsz hx hb hr hml hown hts hlk hnm hK hN hA hP hD hS hl
  subst hsz
  have w1 := hts (.fieldLink RX2 21 "HatGoesRound$Moment" "playing" "I") (List.mem_of_getElem? (i := 1) rfl)
  have hinX2 : ∀ w ∈ u_ws RX2 TX2 7, w ∈ wsX2_become := fun _ h => List.mem_cons_of_mem _ (List.mem_append_right _ h)
  have w2 := hts (.fieldLink RX2 25 "HatGoesRound$Moment" "paid" "I") (List.mem_of_getElem? (i := 2) rfl)
  have w3 := hts (.fieldLink RX2 28 "HatGoesRound$Moment" "next" "I") (List.mem_of_getElem? (i := 3) rfl)
  have w4 := hts (.fieldLink RX2 31 "HatGoesRound$Moment" "taken" "I") (List.mem_of_getElem? (i := 4) rfl)
  have w5 := hts (.fieldLink RX2 34 "HatGoesRound$Moment" "hat" "I") (List.mem_of_getElem? (i := 5) rfl)
  have w6 := hts (.fieldLink RX2 37 "HatGoesRound$Moment" "time" "I") (List.mem_of_getElem? (i := 6) rfl)
  have w7 := hts (.fieldLink RX2 9 "HatGoesRound$Moment" "wind" "[I") (List.mem_of_getElem? (i := 7) rfl)
  have w9 := hts (.initialized RX4) (List.mem_of_getElem? (i := 9) rfl)
  have w8 := hts (.static yX4_at) (List.mem_of_getElem? (i := 8) rfl)
  have w11 := hts (.static yX4_put) (List.mem_of_getElem? (i := 11) rfl)
  have hl : lv_has ls 3 [(0, .ref m_h), (1, .ref m2_h)] := hl
  unfold f_X2_become at hu
  refine lv_aload_n hx hb dX2_become_0 rfl (lv_at hl 0 rfl) ?_
  refine lv_aload_n hx hb dX2_become_1 rfl (lv_at hl 1 rfl) ?_
  refine va_get (D := (dC, dI)) (ci := 2) (v := .int m2_playing) (C := RX2) (T := TX2) (N := 7) hx hb hts hinX2 hown hK hP 1 rfl rfl 0 (by decide) w1 (fun _ h9 => h9) rfl dX2_become_2 ?_
  refine va_put (D := (dC, dI)) (ci := 2) (v := .int m2_playing) (ty := .int) (C := RX2) (T := TX2) (N := 7) hx hb hts hinX2 tyX2 tyX2_ok nmX2 hown hK hP hD hS 0 rfl rfl 0 (by decide) w1 (fun _ h9 => h9) rfl (by decide +kernel) rfl rfl (Nat.le_of_ble_eq_true rfl) dX2_become_5 (fun H locs hP hD hS => ?_)
  have hP : va_P (dC, dI) vwCl [(m_h, .inr (2, [.int m2_playing, .int m_paid, .int m_next, .int m_taken, .int m_hat, .int m_time, .ref m_wind])), (m2_h, .inr (2, [.int m2_playing, .int m2_paid, .int m2_next, .int m2_taken, .int m2_hat, .int m2_time, .ref m2_wind])), (m2_wind, .inl (cI, 6, .inl m2_wind_v)), (m_wind, .inl (cI, 6, .inl m_wind_v))] H := hP
  have hD : va_D A [(m_h, .inr (2, [.int m2_playing, .int m_paid, .int m_next, .int m_taken, .int m_hat, .int m_time, .ref m_wind])), (m2_h, .inr (2, [.int m2_playing, .int m2_paid, .int m2_next, .int m2_taken, .int m2_hat, .int m2_time, .ref m2_wind])), (m2_wind, .inl (cI, 6, .inl m2_wind_v)), (m_wind, .inl (cI, 6, .inl m_wind_v))] := hD
  refine lv_aload_n hx hb dX2_become_8 rfl (lv_at hl 0 rfl) ?_
  refine lv_aload_n hx hb dX2_become_9 rfl (lv_at hl 1 rfl) ?_
  refine va_get (D := (dC, dI)) (ci := 2) (v := .int m2_paid) (C := RX2) (T := TX2) (N := 7) hx hb hts hinX2 hown hK hP 1 rfl rfl 1 (by decide) w2 (fun _ h9 => h9) rfl dX2_become_10 ?_
  refine va_put (D := (dC, dI)) (ci := 2) (v := .int m2_paid) (ty := .int) (C := RX2) (T := TX2) (N := 7) hx hb hts hinX2 tyX2 tyX2_ok nmX2 hown hK hP hD hS 0 rfl rfl 1 (by decide) w2 (fun _ h9 => h9) rfl (by decide +kernel) rfl rfl (Nat.le_of_ble_eq_true rfl) dX2_become_13 (fun H locs hP hD hS => ?_)
  have hP : va_P (dC, dI) vwCl [(m_h, .inr (2, [.int m2_playing, .int m2_paid, .int m_next, .int m_taken, .int m_hat, .int m_time, .ref m_wind])), (m2_h, .inr (2, [.int m2_playing, .int m2_paid, .int m2_next, .int m2_taken, .int m2_hat, .int m2_time, .ref m2_wind])), (m2_wind, .inl (cI, 6, .inl m2_wind_v)), (m_wind, .inl (cI, 6, .inl m_wind_v))] H := hP
  have hD : va_D A [(m_h, .inr (2, [.int m2_playing, .int m2_paid, .int m_next, .int m_taken, .int m_hat, .int m_time, .ref m_wind])), (m2_h, .inr (2, [.int m2_playing, .int m2_paid, .int m2_next, .int m2_taken, .int m2_hat, .int m2_time, .ref m2_wind])), (m2_wind, .inl (cI, 6, .inl m2_wind_v)), (m_wind, .inl (cI, 6, .inl m_wind_v))] := hD
  refine lv_aload_n hx hb dX2_become_16 rfl (lv_at hl 0 rfl) ?_
  refine lv_aload_n hx hb dX2_become_17 rfl (lv_at hl 1 rfl) ?_
  refine va_get (D := (dC, dI)) (ci := 2) (v := .int m2_next) (C := RX2) (T := TX2) (N := 7) hx hb hts hinX2 hown hK hP 1 rfl rfl 2 (by decide) w3 (fun _ h9 => h9) rfl dX2_become_18 ?_
  refine va_put (D := (dC, dI)) (ci := 2) (v := .int m2_next) (ty := .int) (C := RX2) (T := TX2) (N := 7) hx hb hts hinX2 tyX2 tyX2_ok nmX2 hown hK hP hD hS 0 rfl rfl 2 (by decide) w3 (fun _ h9 => h9) rfl (by decide +kernel) rfl rfl (Nat.le_of_ble_eq_true rfl) dX2_become_21 (fun H locs hP hD hS => ?_)
  have hP : va_P (dC, dI) vwCl [(m_h, .inr (2, [.int m2_playing, .int m2_paid, .int m2_next, .int m_taken, .int m_hat, .int m_time, .ref m_wind])), (m2_h, .inr (2, [.int m2_playing, .int m2_paid, .int m2_next, .int m2_taken, .int m2_hat, .int m2_time, .ref m2_wind])), (m2_wind, .inl (cI, 6, .inl m2_wind_v)), (m_wind, .inl (cI, 6, .inl m_wind_v))] H := hP
  have hD : va_D A [(m_h, .inr (2, [.int m2_playing, .int m2_paid, .int m2_next, .int m_taken, .int m_hat, .int m_time, .ref m_wind])), (m2_h, .inr (2, [.int m2_playing, .int m2_paid, .int m2_next, .int m2_taken, .int m2_hat, .int m2_time, .ref m2_wind])), (m2_wind, .inl (cI, 6, .inl m2_wind_v)), (m_wind, .inl (cI, 6, .inl m_wind_v))] := hD
  refine lv_aload_n hx hb dX2_become_24 rfl (lv_at hl 0 rfl) ?_
  refine lv_aload_n hx hb dX2_become_25 rfl (lv_at hl 1 rfl) ?_
  refine va_get (D := (dC, dI)) (ci := 2) (v := .int m2_taken) (C := RX2) (T := TX2) (N := 7) hx hb hts hinX2 hown hK hP 1 rfl rfl 3 (by decide) w4 (fun _ h9 => h9) rfl dX2_become_26 ?_
  refine va_put (D := (dC, dI)) (ci := 2) (v := .int m2_taken) (ty := .int) (C := RX2) (T := TX2) (N := 7) hx hb hts hinX2 tyX2 tyX2_ok nmX2 hown hK hP hD hS 0 rfl rfl 3 (by decide) w4 (fun _ h9 => h9) rfl (by decide +kernel) rfl rfl (Nat.le_of_ble_eq_true rfl) dX2_become_29 (fun H locs hP hD hS => ?_)
  have hP : va_P (dC, dI) vwCl [(m_h, .inr (2, [.int m2_playing, .int m2_paid, .int m2_next, .int m2_taken, .int m_hat, .int m_time, .ref m_wind])), (m2_h, .inr (2, [.int m2_playing, .int m2_paid, .int m2_next, .int m2_taken, .int m2_hat, .int m2_time, .ref m2_wind])), (m2_wind, .inl (cI, 6, .inl m2_wind_v)), (m_wind, .inl (cI, 6, .inl m_wind_v))] H := hP
  have hD : va_D A [(m_h, .inr (2, [.int m2_playing, .int m2_paid, .int m2_next, .int m2_taken, .int m_hat, .int m_time, .ref m_wind])), (m2_h, .inr (2, [.int m2_playing, .int m2_paid, .int m2_next, .int m2_taken, .int m2_hat, .int m2_time, .ref m2_wind])), (m2_wind, .inl (cI, 6, .inl m2_wind_v)), (m_wind, .inl (cI, 6, .inl m_wind_v))] := hD
  refine lv_aload_n hx hb dX2_become_32 rfl (lv_at hl 0 rfl) ?_
  refine lv_aload_n hx hb dX2_become_33 rfl (lv_at hl 1 rfl) ?_
  refine va_get (D := (dC, dI)) (ci := 2) (v := .int m2_hat) (C := RX2) (T := TX2) (N := 7) hx hb hts hinX2 hown hK hP 1 rfl rfl 4 (by decide) w5 (fun _ h9 => h9) rfl dX2_become_34 ?_
  refine va_put (D := (dC, dI)) (ci := 2) (v := .int m2_hat) (ty := .int) (C := RX2) (T := TX2) (N := 7) hx hb hts hinX2 tyX2 tyX2_ok nmX2 hown hK hP hD hS 0 rfl rfl 4 (by decide) w5 (fun _ h9 => h9) rfl (by decide +kernel) rfl rfl (Nat.le_of_ble_eq_true rfl) dX2_become_37 (fun H locs hP hD hS => ?_)
  have hP : va_P (dC, dI) vwCl [(m_h, .inr (2, [.int m2_playing, .int m2_paid, .int m2_next, .int m2_taken, .int m2_hat, .int m_time, .ref m_wind])), (m2_h, .inr (2, [.int m2_playing, .int m2_paid, .int m2_next, .int m2_taken, .int m2_hat, .int m2_time, .ref m2_wind])), (m2_wind, .inl (cI, 6, .inl m2_wind_v)), (m_wind, .inl (cI, 6, .inl m_wind_v))] H := hP
  have hD : va_D A [(m_h, .inr (2, [.int m2_playing, .int m2_paid, .int m2_next, .int m2_taken, .int m2_hat, .int m_time, .ref m_wind])), (m2_h, .inr (2, [.int m2_playing, .int m2_paid, .int m2_next, .int m2_taken, .int m2_hat, .int m2_time, .ref m2_wind])), (m2_wind, .inl (cI, 6, .inl m2_wind_v)), (m_wind, .inl (cI, 6, .inl m_wind_v))] := hD
  refine lv_aload_n hx hb dX2_become_40 rfl (lv_at hl 0 rfl) ?_
  refine lv_aload_n hx hb dX2_become_41 rfl (lv_at hl 1 rfl) ?_
  refine va_get (D := (dC, dI)) (ci := 2) (v := .int m2_time) (C := RX2) (T := TX2) (N := 7) hx hb hts hinX2 hown hK hP 1 rfl rfl 5 (by decide) w6 (fun _ h9 => h9) rfl dX2_become_42 ?_
  refine va_put (D := (dC, dI)) (ci := 2) (v := .int m2_time) (ty := .int) (C := RX2) (T := TX2) (N := 7) hx hb hts hinX2 tyX2 tyX2_ok nmX2 hown hK hP hD hS 0 rfl rfl 5 (by decide) w6 (fun _ h9 => h9) rfl (by decide +kernel) rfl rfl (Nat.le_of_ble_eq_true rfl) dX2_become_45 (fun H locs hP hD hS => ?_)
  have hP : va_P (dC, dI) vwCl [(m_h, .inr (2, [.int m2_playing, .int m2_paid, .int m2_next, .int m2_taken, .int m2_hat, .int m2_time, .ref m_wind])), (m2_h, .inr (2, [.int m2_playing, .int m2_paid, .int m2_next, .int m2_taken, .int m2_hat, .int m2_time, .ref m2_wind])), (m2_wind, .inl (cI, 6, .inl m2_wind_v)), (m_wind, .inl (cI, 6, .inl m_wind_v))] H := hP
  have hD : va_D A [(m_h, .inr (2, [.int m2_playing, .int m2_paid, .int m2_next, .int m2_taken, .int m2_hat, .int m2_time, .ref m_wind])), (m2_h, .inr (2, [.int m2_playing, .int m2_paid, .int m2_next, .int m2_taken, .int m2_hat, .int m2_time, .ref m2_wind])), (m2_wind, .inl (cI, 6, .inl m2_wind_v)), (m_wind, .inl (cI, 6, .inl m_wind_v))] := hD
  refine lv_iconst (v := 0) hx hb dX2_become_48 (by decide) ?_
  refine lv_istore_n (lv' := [(2, .int 0), (0, .ref m_h), (1, .ref m2_h)]) hx hb dX2_become_49 rfl hl (by decide) rfl (fun ls hl => ?_)
  obtain ⟨r3, er3, hu⟩ := lxb_o hu
  refine hg_loopF (T := (Nat → Int32)) (N := (itn 0 6)) (fun v50 => [(m_h, .inr (2, [.int m2_playing, .int m2_paid, .int m2_next, .int m2_taken, .int m2_hat, .int m2_time, .ref m_wind])), (m2_h, .inr (2, [.int m2_playing, .int m2_paid, .int m2_next, .int m2_taken, .int m2_hat, .int m2_time, .ref m2_wind])), (m2_wind, .inl (cI, 6, .inl m2_wind_v)), (m_wind, .inl (cI, 6, .inl v50))]) (fun k50 v50 => [(0, .ref m_h), (1, .ref m2_h), (2, .int (nI k50))]) (fun k50 => l_X2_become_50 m2_wind_v m_wind_v k50) ?_ ?_ hP hD hS (lv_sub hl [1, 2, 0] rfl)
  · intro v50 hv H locs ls hP hD hS hl
    obtain rfl : r3 = v50 := er3.trans hv.symm
    have hP : va_P (dC, dI) vwCl [(m_h, .inr (2, [.int m2_playing, .int m2_paid, .int m2_next, .int m2_taken, .int m2_hat, .int m2_time, .ref m_wind])), (m2_h, .inr (2, [.int m2_playing, .int m2_paid, .int m2_next, .int m2_taken, .int m2_hat, .int m2_time, .ref m2_wind])), (m2_wind, .inl (cI, 6, .inl m2_wind_v)), (m_wind, .inl (cI, 6, .inl r3))] H := hP
    have hD : va_D A [(m_h, .inr (2, [.int m2_playing, .int m2_paid, .int m2_next, .int m2_taken, .int m2_hat, .int m2_time, .ref m_wind])), (m2_h, .inr (2, [.int m2_playing, .int m2_paid, .int m2_next, .int m2_taken, .int m2_hat, .int m2_time, .ref m2_wind])), (m2_wind, .inl (cI, 6, .inl m2_wind_v)), (m_wind, .inl (cI, 6, .inl r3))] := hD
    have hl : lv_has ls 3 [(0, .ref m_h), (1, .ref m2_h), (2, .int (nI (itn 0 6)))] := hl
    refine lv_iload_n hx hb dX2_become_50 rfl (lv_at hl 2 rfl) ?_
    refine lv_bipush (v := 6) hx hb dX2_become_51 (by decide) ?_
    refine lv_icmp_ge (tgt := 78) hx hb dX2_become_53 (by decide) (fun c_53 => ?_) (fun c_53 => absurd hg_lo0 c_53)
    subst hu
    exact hg_rv hx hb hr hlk hP hD hS dX2_become_78
  · intro k50 hk v50 hv w hw ih H locs ls hP hD hS hl
    have hw : w = b_X2_become_50 m2_wind_v k50 v50 := by rw [hw, hv]; rfl
    unfold b_X2_become_50 at hw
    have hkb : k50 < 6 := Nat.lt_of_lt_of_le hk (by decide)
    have hP : va_P (dC, dI) vwCl [(m_h, .inr (2, [.int m2_playing, .int m2_paid, .int m2_next, .int m2_taken, .int m2_hat, .int m2_time, .ref m_wind])), (m2_h, .inr (2, [.int m2_playing, .int m2_paid, .int m2_next, .int m2_taken, .int m2_hat, .int m2_time, .ref m2_wind])), (m2_wind, .inl (cI, 6, .inl m2_wind_v)), (m_wind, .inl (cI, 6, .inl v50))] H := hP
    have hD : va_D A [(m_h, .inr (2, [.int m2_playing, .int m2_paid, .int m2_next, .int m2_taken, .int m2_hat, .int m2_time, .ref m_wind])), (m2_h, .inr (2, [.int m2_playing, .int m2_paid, .int m2_next, .int m2_taken, .int m2_hat, .int m2_time, .ref m2_wind])), (m2_wind, .inl (cI, 6, .inl m2_wind_v)), (m_wind, .inl (cI, 6, .inl v50))] := hD
    have hl : lv_has ls 3 [(0, .ref m_h), (1, .ref m2_h), (2, .int (nI k50))] := hl
    refine lv_iload_n hx hb dX2_become_50 rfl (lv_at hl 2 rfl) ?_
    refine lv_bipush (v := 6) hx hb dX2_become_51 (by decide) ?_
    refine lv_icmp_ge (tgt := 78) hx hb dX2_become_53 (by decide) (fun c_53 => absurd c_53 (hg_lo1 hk)) (fun c_53 => ?_)
    refine lv_aload_n hx hb dX2_become_56 rfl (lv_at hl 0 rfl) ?_
    refine va_get (D := (dC, dI)) (ci := 2) (v := .ref m_wind) (C := RX2) (T := TX2) (N := 7) hx hb hts hinX2 hown hK hP 0 rfl rfl 6 (by decide) w7 (fun _ h9 => h9) rfl dX2_become_57 ?_
    refine lv_iload_n hx hb dX2_become_60 rfl (lv_at hl 2 rfl) ?_
    refine lv_aload_n hx hb dX2_become_61 rfl (lv_at hl 1 rfl) ?_
    refine va_get (D := (dC, dI)) (ci := 2) (v := .ref m2_wind) (C := RX2) (T := TX2) (N := 7) hx hb hts hinX2 hown hK hP 1 rfl rfl 6 (by decide) w7 (fun _ h9 => h9) rfl dX2_become_62 ?_
    refine lv_iload_n hx hb dX2_become_65 rfl (lv_at hl 2 rfl) ?_
    obtain ⟨r1, er1, hw⟩ := lxb_o hw
    refine hg_ci (va_runSN (As := [.ref m2_wind, .int (nI k50)]) (rest := [.int (nI k50), .ref m_wind]) ⟨hx, hb, hml, hown, hts⟩ (c_X4_at l dC dI cI cZ cM _ m2_wind (nI k50) 6 m2_wind_v (by decide) r1 er1) ⟨va_cnB 2 hts gX2_become_X4_at_n47 rfl rfl rfl hN.2.2.1 w9 (by decide +kernel) ⟨Nat.le_of_ble_eq_true rfl, Nat.le_of_ble_eq_true rfl⟩, w8, trivial⟩ (hgPreS hP hD hK hN [2] rfl rfl) rfl rfl hl.1 rfl (lv_room (Nat.le_of_ble_eq_true rfl)) dX2_become_66 ⟨Nat.zero_le _, Nat.zero_le _⟩) hP hD hS hA (wr := [(m_h, .inr (2, [.int m2_playing, .int m2_paid, .int m2_next, .int m2_taken, .int m2_hat, .int m2_time, .ref m_wind])), (m2_h, .inr (2, [.int m2_playing, .int m2_paid, .int m2_next, .int m2_taken, .int m2_hat, .int m2_time, .ref m2_wind])), (m_wind, .inl (cI, 6, .inl v50))]) (wf := [(m_h, .inr (2, [.int m2_playing, .int m2_paid, .int m2_next, .int m2_taken, .int m2_hat, .int m2_time, .ref m_wind])), (m2_h, .inr (2, [.int m2_playing, .int m2_paid, .int m2_next, .int m2_taken, .int m2_hat, .int m2_time, .ref m2_wind])), (m2_wind, .inl (cI, 6, .inl m2_wind_v)), (m_wind, .inl (cI, 6, .inl v50))]) [2] [0, 1, 3] [0, 1, 3, 2] rfl rfl rfl (by decide) rfl rfl (fun H locs hP hD hS => ?_)
    obtain ⟨r2, er2, hw⟩ := lxb_o hw
    refine hg_cv (va_runSN (As := [.ref m_wind, .int (nI k50), .int r1]) (rest := []) ⟨hx, hb, hml, hown, hts⟩ (c_X4_put l dC dI cI cZ cM _ m_wind (nI k50) r1 6 v50 (by decide) r2 er2) ⟨va_cnB 3 hts gX2_become_X4_put_n51 rfl rfl rfl hN.2.2.2.1 w9 (by decide +kernel) ⟨Nat.le_of_ble_eq_true rfl, Nat.le_of_ble_eq_true rfl⟩, w11, trivial⟩ (hgPreS hP hD hK hN [3] rfl rfl) rfl rfl hl.1 rfl (lv_room (Nat.le_of_ble_eq_true rfl)) dX2_become_69 ⟨Nat.zero_le _, Nat.zero_le _⟩) hP hD hS hA (wr := [(m_h, .inr (2, [.int m2_playing, .int m2_paid, .int m2_next, .int m2_taken, .int m2_hat, .int m2_time, .ref m_wind])), (m2_h, .inr (2, [.int m2_playing, .int m2_paid, .int m2_next, .int m2_taken, .int m2_hat, .int m2_time, .ref m2_wind])), (m2_wind, .inl (cI, 6, .inl m2_wind_v))]) (wf := [(m_h, .inr (2, [.int m2_playing, .int m2_paid, .int m2_next, .int m2_taken, .int m2_hat, .int m2_time, .ref m_wind])), (m2_h, .inr (2, [.int m2_playing, .int m2_paid, .int m2_next, .int m2_taken, .int m2_hat, .int m2_time, .ref m2_wind])), (m2_wind, .inl (cI, 6, .inl m2_wind_v)), (m_wind, .inl (cI, 6, .inl r2))]) [3] [0, 1, 2] [0, 1, 2, 3] rfl rfl rfl (by decide) rfl rfl (fun H locs hP hD hS => ?_)
    refine lv_iinc (v := nI (k50 + 1)) (lv' := [(2, .int (nI (k50 + 1))), (0, .ref m_h), (1, .ref m2_h)]) hx hb dX2_become_72 hl (k := 2) rfl (nI_1 k50) (by decide) rfl (fun ls hl => ?_)
    refine lv_goto (tgt := 50) hx hb dX2_become_75 (by decide) ?_
    subst hw
    exact ih _ _ _ hP hD hS (lv_sub hl [1, 2, 0] rfl)

set_option maxHeartbeats 4000000 in
set_option maxRecDepth 100000 in
theorem c_X2_begin (l : Launch) (dC : Nat → ClassId) (dI : Nat → Nat → Nat) (cI cZ cM : ClassId) (sz : Nat) (m_h : Nat) (t_h : Nat) (m_playing : Int32) (m_paid : Int32) (m_next : Int32) (m_taken : Int32) (m_hat : Int32) (m_time : Int32) (m_wind : Nat) (t_players : Int32) (t_bars : Int32) (t_prices : Nat) (t_winds : Nat) (t_kinds : Nat) (t_looks : Nat) (t_noises : Nat) (t_repeats : Nat) (t_winds_v : Nat → Int32) (m_wind_v : Nat → Int32) (u : Int32 × Int32 × Int32 × Int32 × Int32 × Int32 × (Nat → Int32)) (hu : u = f_X2_begin t_players t_winds_v m_wind_v) : Met l yX2_begin wsX2_begin { frames := 1, cells := 0, slots := 0, locals := 22 } (hgPc [.ref m_h, .ref t_h] (dC, dI) cI cZ cM [(m_h, .inr (2, [.int m_playing, .int m_paid, .int m_next, .int m_taken, .int m_hat, .int m_time, .ref m_wind])), (t_h, .inr (3, [.int t_players, .int t_bars, .ref t_prices, .ref t_winds, .ref t_kinds, .ref t_looks, .ref t_noises, .ref t_repeats])), (t_winds, .inl (cI, 6, .inl t_winds_v)), (m_wind, .inl (cI, 6, .inl m_wind_v))] sz) (hgQv (dC, dI) [(m_h, .inr (2, [.int u.1, .int u.2.1, .int u.2.2.1, .int u.2.2.2.1, .int u.2.2.2.2.1, .int u.2.2.2.2.2.1, .ref m_wind])), (t_h, .inr (3, [.int t_players, .int t_bars, .ref t_prices, .ref t_winds, .ref t_kinds, .ref t_looks, .ref t_noises, .ref t_repeats])), (t_winds, .inl (cI, 6, .inl t_winds_v)), (m_wind, .inl (cI, 6, .inl u.2.2.2.2.2.2))] (va_A [(m_h, .inr (2, [.int m_playing, .int m_paid, .int m_next, .int m_taken, .int m_hat, .int m_time, .ref m_wind])), (t_h, .inr (3, [.int t_players, .int t_bars, .ref t_prices, .ref t_winds, .ref t_kinds, .ref t_looks, .ref t_noises, .ref t_repeats])), (t_winds, .inl (cI, 6, .inl t_winds_v)), (m_wind, .inl (cI, 6, .inl m_wind_v))] sz)) 0 0 (va_A [(m_h, .inr (2, [.int m_playing, .int m_paid, .int m_next, .int m_taken, .int m_hat, .int m_time, .ref m_wind])), (t_h, .inr (3, [.int t_players, .int t_bars, .ref t_prices, .ref t_winds, .ref t_kinds, .ref t_looks, .ref t_noises, .ref t_repeats])), (t_winds, .inl (cI, 6, .inl t_winds_v)), (m_wind, .inl (cI, 6, .inl m_wind_v))] sz) := by
  refine hg_ofW (cc := cX2_begin) (maxL := 3) (ret := none) (own := RX2) (fun A => hgQv (dC, dI) [(m_h, .inr (2, [.int u.1, .int u.2.1, .int u.2.2.1, .int u.2.2.2.1, .int u.2.2.2.2.1, .int u.2.2.2.2.2.1, .ref m_wind])), (t_h, .inr (3, [.int t_players, .int t_bars, .ref t_prices, .ref t_winds, .ref t_kinds, .ref t_looks, .ref t_noises, .ref t_repeats])), (t_winds, .inl (cI, 6, .inl t_winds_v)), (m_wind, .inl (cI, 6, .inl u.2.2.2.2.2.2))] A) rfl (by decide) rfl (Nat.le_of_ble_eq_true rfl) ?_
  intro p e s m below meth c ls A hsz hx hb hr hml hown hts hlk hnm hK hN hA hP hD hS hl
  subst hsz
  have w1 := hts (.fieldLink RX2 21 "HatGoesRound$Moment" "playing" "I") (List.mem_of_getElem? (i := 1) rfl)
  have hinX2 : ∀ w ∈ u_ws RX2 TX2 7, w ∈ wsX2_begin := fun _ h => List.mem_cons_of_mem _ (List.mem_append_left _ (List.mem_append_right _ h))
  have w2 := hts (.fieldLink RX2 25 "HatGoesRound$Moment" "paid" "I") (List.mem_of_getElem? (i := 2) rfl)
  have w3 := hts (.fieldLink RX2 28 "HatGoesRound$Moment" "next" "I") (List.mem_of_getElem? (i := 3) rfl)
  have w4 := hts (.fieldLink RX2 31 "HatGoesRound$Moment" "taken" "I") (List.mem_of_getElem? (i := 4) rfl)
  have w5 := hts (.fieldLink RX2 34 "HatGoesRound$Moment" "hat" "I") (List.mem_of_getElem? (i := 5) rfl)
  have w6 := hts (.fieldLink RX2 37 "HatGoesRound$Moment" "time" "I") (List.mem_of_getElem? (i := 6) rfl)
  have w7 := hts (.fieldLink RX2 9 "HatGoesRound$Moment" "wind" "[I") (List.mem_of_getElem? (i := 7) rfl)
  have w8 := hts (.fieldLink RX2 44 "HatGoesRound$Told" "winds" "[I") (List.mem_of_getElem? (i := 8) rfl)
  have hinX3 : ∀ w ∈ u_ws RX3 TX3 8, w ∈ wsX2_begin := fun _ h => List.mem_cons_of_mem _ (List.mem_append_right _ h)
  have w20 := hts (.initialized RX4) (List.mem_of_getElem? (i := 20) rfl)
  have w19 := hts (.static yX4_at) (List.mem_of_getElem? (i := 19) rfl)
  have w22 := hts (.static yX4_put) (List.mem_of_getElem? (i := 22) rfl)
  have hl : lv_has ls 3 [(0, .ref m_h), (1, .ref t_h)] := hl
  unfold f_X2_begin at hu
  refine lv_aload_n hx hb dX2_begin_0 rfl (lv_at hl 0 rfl) ?_
  refine lv_aload_n hx hb dX2_begin_1 rfl (lv_at hl 1 rfl) ?_
  obtain ⟨r1, er1, hu⟩ := lxb_o hu
  refine hg_ci (va_runV (As := []) (rest := [.ref m_h]) ⟨hx, hb, hml, hown, hts⟩ (c_X3_everybody l dC dI cI cZ cM _ t_h t_players t_bars t_prices t_winds t_kinds t_looks t_noises t_repeats r1 er1) (cwV 0 hts gX2_begin_X3_everybody rfl rfl rfl (by decide +kernel) ⟨Nat.le_of_ble_eq_true rfl, Nat.le_of_ble_eq_true rfl⟩) (hgPreV (C := RX3) (T := TX3) (N := 8) (ci := 3) (q0 := 1) hP hD hK hN [1] rfl rfl rfl rfl) rfl rfl hl.1 rfl (lv_room (Nat.le_of_ble_eq_true rfl)) dX2_begin_2 ⟨Nat.zero_le _, Nat.zero_le _⟩) hP hD hS hA (wr := [(m_h, .inr (2, [.int m_playing, .int m_paid, .int m_next, .int m_taken, .int m_hat, .int m_time, .ref m_wind])), (t_winds, .inl (cI, 6, .inl t_winds_v)), (m_wind, .inl (cI, 6, .inl m_wind_v))]) (wf := [(m_h, .inr (2, [.int m_playing, .int m_paid, .int m_next, .int m_taken, .int m_hat, .int m_time, .ref m_wind])), (t_h, .inr (3, [.int t_players, .int t_bars, .ref t_prices, .ref t_winds, .ref t_kinds, .ref t_looks, .ref t_noises, .ref t_repeats])), (t_winds, .inl (cI, 6, .inl t_winds_v)), (m_wind, .inl (cI, 6, .inl m_wind_v))]) [1] [0, 2, 3] [0, 3, 1, 2] rfl rfl rfl (by decide) rfl rfl (fun H locs hP hD hS => ?_)
  refine va_put (D := (dC, dI)) (ci := 2) (v := .int r1) (ty := .int) (C := RX2) (T := TX2) (N := 7) hx hb hts hinX2 tyX2 tyX2_ok nmX2 hown hK hP hD hS 0 rfl rfl 0 (by decide) w1 (fun _ h9 => h9) rfl (by decide +kernel) rfl rfl (Nat.le_of_ble_eq_true rfl) dX2_begin_5 (fun H locs hP hD hS => ?_)
  have hP : va_P (dC, dI) vwCl [(m_h, .inr (2, [.int r1, .int m_paid, .int m_next, .int m_taken, .int m_hat, .int m_time, .ref m_wind])), (t_h, .inr (3, [.int t_players, .int t_bars, .ref t_prices, .ref t_winds, .ref t_kinds, .ref t_looks, .ref t_noises, .ref t_repeats])), (t_winds, .inl (cI, 6, .inl t_winds_v)), (m_wind, .inl (cI, 6, .inl m_wind_v))] H := hP
  have hD : va_D A [(m_h, .inr (2, [.int r1, .int m_paid, .int m_next, .int m_taken, .int m_hat, .int m_time, .ref m_wind])), (t_h, .inr (3, [.int t_players, .int t_bars, .ref t_prices, .ref t_winds, .ref t_kinds, .ref t_looks, .ref t_noises, .ref t_repeats])), (t_winds, .inl (cI, 6, .inl t_winds_v)), (m_wind, .inl (cI, 6, .inl m_wind_v))] := hD
  refine lv_aload_n hx hb dX2_begin_8 rfl (lv_at hl 0 rfl) ?_
  refine lv_iconst (v := 0) hx hb dX2_begin_9 (by decide) ?_
  refine va_put (D := (dC, dI)) (ci := 2) (v := .int 0) (ty := .int) (C := RX2) (T := TX2) (N := 7) hx hb hts hinX2 tyX2 tyX2_ok nmX2 hown hK hP hD hS 0 rfl rfl 1 (by decide) w2 (fun _ h9 => h9) rfl (by decide +kernel) rfl rfl (Nat.le_of_ble_eq_true rfl) dX2_begin_10 (fun H locs hP hD hS => ?_)
  have hP : va_P (dC, dI) vwCl [(m_h, .inr (2, [.int r1, .int 0, .int m_next, .int m_taken, .int m_hat, .int m_time, .ref m_wind])), (t_h, .inr (3, [.int t_players, .int t_bars, .ref t_prices, .ref t_winds, .ref t_kinds, .ref t_looks, .ref t_noises, .ref t_repeats])), (t_winds, .inl (cI, 6, .inl t_winds_v)), (m_wind, .inl (cI, 6, .inl m_wind_v))] H := hP
  have hD : va_D A [(m_h, .inr (2, [.int r1, .int 0, .int m_next, .int m_taken, .int m_hat, .int m_time, .ref m_wind])), (t_h, .inr (3, [.int t_players, .int t_bars, .ref t_prices, .ref t_winds, .ref t_kinds, .ref t_looks, .ref t_noises, .ref t_repeats])), (t_winds, .inl (cI, 6, .inl t_winds_v)), (m_wind, .inl (cI, 6, .inl m_wind_v))] := hD
  refine lv_aload_n hx hb dX2_begin_13 rfl (lv_at hl 0 rfl) ?_
  refine lv_iconst (v := 0) hx hb dX2_begin_14 (by decide) ?_
  refine va_put (D := (dC, dI)) (ci := 2) (v := .int 0) (ty := .int) (C := RX2) (T := TX2) (N := 7) hx hb hts hinX2 tyX2 tyX2_ok nmX2 hown hK hP hD hS 0 rfl rfl 2 (by decide) w3 (fun _ h9 => h9) rfl (by decide +kernel) rfl rfl (Nat.le_of_ble_eq_true rfl) dX2_begin_15 (fun H locs hP hD hS => ?_)
  have hP : va_P (dC, dI) vwCl [(m_h, .inr (2, [.int r1, .int 0, .int 0, .int m_taken, .int m_hat, .int m_time, .ref m_wind])), (t_h, .inr (3, [.int t_players, .int t_bars, .ref t_prices, .ref t_winds, .ref t_kinds, .ref t_looks, .ref t_noises, .ref t_repeats])), (t_winds, .inl (cI, 6, .inl t_winds_v)), (m_wind, .inl (cI, 6, .inl m_wind_v))] H := hP
  have hD : va_D A [(m_h, .inr (2, [.int r1, .int 0, .int 0, .int m_taken, .int m_hat, .int m_time, .ref m_wind])), (t_h, .inr (3, [.int t_players, .int t_bars, .ref t_prices, .ref t_winds, .ref t_kinds, .ref t_looks, .ref t_noises, .ref t_repeats])), (t_winds, .inl (cI, 6, .inl t_winds_v)), (m_wind, .inl (cI, 6, .inl m_wind_v))] := hD
  refine lv_aload_n hx hb dX2_begin_18 rfl (lv_at hl 0 rfl) ?_
  refine lv_iconst (v := 0) hx hb dX2_begin_19 (by decide) ?_
  refine va_put (D := (dC, dI)) (ci := 2) (v := .int 0) (ty := .int) (C := RX2) (T := TX2) (N := 7) hx hb hts hinX2 tyX2 tyX2_ok nmX2 hown hK hP hD hS 0 rfl rfl 3 (by decide) w4 (fun _ h9 => h9) rfl (by decide +kernel) rfl rfl (Nat.le_of_ble_eq_true rfl) dX2_begin_20 (fun H locs hP hD hS => ?_)
  have hP : va_P (dC, dI) vwCl [(m_h, .inr (2, [.int r1, .int 0, .int 0, .int 0, .int m_hat, .int m_time, .ref m_wind])), (t_h, .inr (3, [.int t_players, .int t_bars, .ref t_prices, .ref t_winds, .ref t_kinds, .ref t_looks, .ref t_noises, .ref t_repeats])), (t_winds, .inl (cI, 6, .inl t_winds_v)), (m_wind, .inl (cI, 6, .inl m_wind_v))] H := hP
  have hD : va_D A [(m_h, .inr (2, [.int r1, .int 0, .int 0, .int 0, .int m_hat, .int m_time, .ref m_wind])), (t_h, .inr (3, [.int t_players, .int t_bars, .ref t_prices, .ref t_winds, .ref t_kinds, .ref t_looks, .ref t_noises, .ref t_repeats])), (t_winds, .inl (cI, 6, .inl t_winds_v)), (m_wind, .inl (cI, 6, .inl m_wind_v))] := hD
  refine lv_aload_n hx hb dX2_begin_23 rfl (lv_at hl 0 rfl) ?_
  refine lv_iconst (v := 0) hx hb dX2_begin_24 (by decide) ?_
  refine va_put (D := (dC, dI)) (ci := 2) (v := .int 0) (ty := .int) (C := RX2) (T := TX2) (N := 7) hx hb hts hinX2 tyX2 tyX2_ok nmX2 hown hK hP hD hS 0 rfl rfl 4 (by decide) w5 (fun _ h9 => h9) rfl (by decide +kernel) rfl rfl (Nat.le_of_ble_eq_true rfl) dX2_begin_25 (fun H locs hP hD hS => ?_)
  have hP : va_P (dC, dI) vwCl [(m_h, .inr (2, [.int r1, .int 0, .int 0, .int 0, .int 0, .int m_time, .ref m_wind])), (t_h, .inr (3, [.int t_players, .int t_bars, .ref t_prices, .ref t_winds, .ref t_kinds, .ref t_looks, .ref t_noises, .ref t_repeats])), (t_winds, .inl (cI, 6, .inl t_winds_v)), (m_wind, .inl (cI, 6, .inl m_wind_v))] H := hP
  have hD : va_D A [(m_h, .inr (2, [.int r1, .int 0, .int 0, .int 0, .int 0, .int m_time, .ref m_wind])), (t_h, .inr (3, [.int t_players, .int t_bars, .ref t_prices, .ref t_winds, .ref t_kinds, .ref t_looks, .ref t_noises, .ref t_repeats])), (t_winds, .inl (cI, 6, .inl t_winds_v)), (m_wind, .inl (cI, 6, .inl m_wind_v))] := hD
  refine lv_aload_n hx hb dX2_begin_28 rfl (lv_at hl 0 rfl) ?_
  refine lv_iconst (v := 0) hx hb dX2_begin_29 (by decide) ?_
  refine va_put (D := (dC, dI)) (ci := 2) (v := .int 0) (ty := .int) (C := RX2) (T := TX2) (N := 7) hx hb hts hinX2 tyX2 tyX2_ok nmX2 hown hK hP hD hS 0 rfl rfl 5 (by decide) w6 (fun _ h9 => h9) rfl (by decide +kernel) rfl rfl (Nat.le_of_ble_eq_true rfl) dX2_begin_30 (fun H locs hP hD hS => ?_)
  have hP : va_P (dC, dI) vwCl [(m_h, .inr (2, [.int r1, .int 0, .int 0, .int 0, .int 0, .int 0, .ref m_wind])), (t_h, .inr (3, [.int t_players, .int t_bars, .ref t_prices, .ref t_winds, .ref t_kinds, .ref t_looks, .ref t_noises, .ref t_repeats])), (t_winds, .inl (cI, 6, .inl t_winds_v)), (m_wind, .inl (cI, 6, .inl m_wind_v))] H := hP
  have hD : va_D A [(m_h, .inr (2, [.int r1, .int 0, .int 0, .int 0, .int 0, .int 0, .ref m_wind])), (t_h, .inr (3, [.int t_players, .int t_bars, .ref t_prices, .ref t_winds, .ref t_kinds, .ref t_looks, .ref t_noises, .ref t_repeats])), (t_winds, .inl (cI, 6, .inl t_winds_v)), (m_wind, .inl (cI, 6, .inl m_wind_v))] := hD
  refine lv_iconst (v := 0) hx hb dX2_begin_33 (by decide) ?_
  refine lv_istore_n (lv' := [(2, .int 0), (0, .ref m_h), (1, .ref t_h)]) hx hb dX2_begin_34 rfl hl (by decide) rfl (fun ls hl => ?_)
  obtain ⟨r6, er6, hu⟩ := lxb_o hu
  refine hg_loopF (T := (Nat → Int32)) (N := (itn 0 6)) (fun v35 => [(m_h, .inr (2, [.int r1, .int 0, .int 0, .int 0, .int 0, .int 0, .ref m_wind])), (t_h, .inr (3, [.int t_players, .int t_bars, .ref t_prices, .ref t_winds, .ref t_kinds, .ref t_looks, .ref t_noises, .ref t_repeats])), (t_winds, .inl (cI, 6, .inl t_winds_v)), (m_wind, .inl (cI, 6, .inl v35))]) (fun k35 v35 => [(0, .ref m_h), (1, .ref t_h), (2, .int (nI k35))]) (fun k35 => l_X2_begin_35 t_players t_winds_v m_wind_v k35) ?_ ?_ hP hD hS (lv_sub hl [1, 2, 0] rfl)
  · intro v35 hv H locs ls hP hD hS hl
    obtain rfl : r6 = v35 := er6.trans hv.symm
    have hP : va_P (dC, dI) vwCl [(m_h, .inr (2, [.int r1, .int 0, .int 0, .int 0, .int 0, .int 0, .ref m_wind])), (t_h, .inr (3, [.int t_players, .int t_bars, .ref t_prices, .ref t_winds, .ref t_kinds, .ref t_looks, .ref t_noises, .ref t_repeats])), (t_winds, .inl (cI, 6, .inl t_winds_v)), (m_wind, .inl (cI, 6, .inl r6))] H := hP
    have hD : va_D A [(m_h, .inr (2, [.int r1, .int 0, .int 0, .int 0, .int 0, .int 0, .ref m_wind])), (t_h, .inr (3, [.int t_players, .int t_bars, .ref t_prices, .ref t_winds, .ref t_kinds, .ref t_looks, .ref t_noises, .ref t_repeats])), (t_winds, .inl (cI, 6, .inl t_winds_v)), (m_wind, .inl (cI, 6, .inl r6))] := hD
    have hl : lv_has ls 3 [(0, .ref m_h), (1, .ref t_h), (2, .int (nI (itn 0 6)))] := hl
    refine lv_iload_n hx hb dX2_begin_35 rfl (lv_at hl 2 rfl) ?_
    refine lv_bipush (v := 6) hx hb dX2_begin_36 (by decide) ?_
    refine lv_icmp_ge (tgt := 75) hx hb dX2_begin_38 (by decide) (fun c_38 => ?_) (fun c_38 => absurd hg_lo0 c_38)
    subst hu
    exact hg_rv hx hb hr hlk hP hD hS dX2_begin_75
  · intro k35 hk v35 hv w hw ih H locs ls hP hD hS hl
    have hw : w = b_X2_begin_35 t_players t_winds_v k35 v35 := by rw [hw, hv]; rfl
    unfold b_X2_begin_35 at hw
    have hkb : k35 < 6 := Nat.lt_of_lt_of_le hk (by decide)
    have hP : va_P (dC, dI) vwCl [(m_h, .inr (2, [.int r1, .int 0, .int 0, .int 0, .int 0, .int 0, .ref m_wind])), (t_h, .inr (3, [.int t_players, .int t_bars, .ref t_prices, .ref t_winds, .ref t_kinds, .ref t_looks, .ref t_noises, .ref t_repeats])), (t_winds, .inl (cI, 6, .inl t_winds_v)), (m_wind, .inl (cI, 6, .inl v35))] H := hP
    have hD : va_D A [(m_h, .inr (2, [.int r1, .int 0, .int 0, .int 0, .int 0, .int 0, .ref m_wind])), (t_h, .inr (3, [.int t_players, .int t_bars, .ref t_prices, .ref t_winds, .ref t_kinds, .ref t_looks, .ref t_noises, .ref t_repeats])), (t_winds, .inl (cI, 6, .inl t_winds_v)), (m_wind, .inl (cI, 6, .inl v35))] := hD
    have hl : lv_has ls 3 [(0, .ref m_h), (1, .ref t_h), (2, .int (nI k35))] := hl
    refine lv_iload_n hx hb dX2_begin_35 rfl (lv_at hl 2 rfl) ?_
    refine lv_bipush (v := 6) hx hb dX2_begin_36 (by decide) ?_
    refine lv_icmp_ge (tgt := 75) hx hb dX2_begin_38 (by decide) (fun c_38 => absurd c_38 (hg_lo1 hk)) (fun c_38 => ?_)
    refine lv_aload_n hx hb dX2_begin_41 rfl (lv_at hl 0 rfl) ?_
    refine va_get (D := (dC, dI)) (ci := 2) (v := .ref m_wind) (C := RX2) (T := TX2) (N := 7) hx hb hts hinX2 hown hK hP 0 rfl rfl 6 (by decide) w7 (fun _ h9 => h9) rfl dX2_begin_42 ?_
    refine lv_iload_n hx hb dX2_begin_45 rfl (lv_at hl 2 rfl) ?_
    refine lv_aload_n hx hb dX2_begin_46 rfl (lv_at hl 1 rfl) ?_
    refine lv_iload_n hx hb dX2_begin_47 rfl (lv_at hl 2 rfl) ?_
    obtain ⟨r2, er2, hw⟩ := lxb_o hw
    refine hg_ci (va_runV (As := [.int (nI k35)]) (rest := [.int (nI k35), .ref m_wind]) ⟨hx, hb, hml, hown, hts⟩ (c_X3_hasPlayer l dC dI cI cZ cM _ t_h (nI k35) t_players t_bars t_prices t_winds t_kinds t_looks t_noises t_repeats r2 er2) (cwV 1 hts gX2_begin_X3_hasPlayer rfl rfl rfl (by decide +kernel) ⟨Nat.le_of_ble_eq_true rfl, Nat.le_of_ble_eq_true rfl⟩) (hgPreV (C := RX3) (T := TX3) (N := 8) (ci := 3) (q0 := 1) hP hD hK hN [1] rfl rfl rfl rfl) rfl rfl hl.1 rfl (lv_room (Nat.le_of_ble_eq_true rfl)) dX2_begin_48 ⟨Nat.zero_le _, Nat.zero_le _⟩) hP hD hS hA (wr := [(m_h, .inr (2, [.int r1, .int 0, .int 0, .int 0, .int 0, .int 0, .ref m_wind])), (t_winds, .inl (cI, 6, .inl t_winds_v)), (m_wind, .inl (cI, 6, .inl v35))]) (wf := [(m_h, .inr (2, [.int r1, .int 0, .int 0, .int 0, .int 0, .int 0, .ref m_wind])), (t_h, .inr (3, [.int t_players, .int t_bars, .ref t_prices, .ref t_winds, .ref t_kinds, .ref t_looks, .ref t_noises, .ref t_repeats])), (t_winds, .inl (cI, 6, .inl t_winds_v)), (m_wind, .inl (cI, 6, .inl v35))]) [1] [0, 2, 3] [0, 3, 1, 2] rfl rfl rfl (by decide) rfl rfl (fun H locs hP hD hS => ?_)
    obtain ⟨z3, ez3, hw⟩ := lxb_o hw
    refine hg_cut (D := (dC, dI)) (A0 := A) (H0 := s.heap) (ws := [(m_h, .inr (2, [.int r1, .int 0, .int 0, .int 0, .int 0, .int 0, .ref m_wind])), (t_h, .inr (3, [.int t_players, .int t_bars, .ref t_prices, .ref t_winds, .ref t_kinds, .ref t_looks, .ref t_noises, .ref t_repeats])), (t_winds, .inl (cI, 6, .inl t_winds_v)), (m_wind, .inl (cI, 6, .inl v35))]) (g := F0 m 66 ls [.int z3, .int (nI k35), .ref m_wind]) ?_ (fun hJ => ?_)
    · intro H locs hP hD hS
      obtain ⟨r5, er5, hw⟩ := lxb_o hw
      refine hg_cv (va_runSN (As := [.ref m_wind, .int (nI k35), .int z3]) (rest := []) ⟨hx, hb, hml, hown, hts⟩ (c_X4_put l dC dI cI cZ cM _ m_wind (nI k35) z3 6 v35 (by decide) r5 er5) ⟨va_cnB 3 hts gX2_begin_X4_put_n51 rfl rfl rfl hN.2.2.2.1 w20 (by decide +kernel) ⟨Nat.le_of_ble_eq_true rfl, Nat.le_of_ble_eq_true rfl⟩, w22, trivial⟩ (hgPreS hP hD hK hN [3] rfl rfl) rfl rfl hl.1 rfl (lv_room (Nat.le_of_ble_eq_true rfl)) dX2_begin_66 ⟨Nat.zero_le _, Nat.zero_le _⟩) hP hD hS hA (wr := [(m_h, .inr (2, [.int r1, .int 0, .int 0, .int 0, .int 0, .int 0, .ref m_wind])), (t_h, .inr (3, [.int t_players, .int t_bars, .ref t_prices, .ref t_winds, .ref t_kinds, .ref t_looks, .ref t_noises, .ref t_repeats])), (t_winds, .inl (cI, 6, .inl t_winds_v))]) (wf := [(m_h, .inr (2, [.int r1, .int 0, .int 0, .int 0, .int 0, .int 0, .ref m_wind])), (t_h, .inr (3, [.int t_players, .int t_bars, .ref t_prices, .ref t_winds, .ref t_kinds, .ref t_looks, .ref t_noises, .ref t_repeats])), (t_winds, .inl (cI, 6, .inl t_winds_v)), (m_wind, .inl (cI, 6, .inl r5))]) [3] [0, 1, 2] [0, 1, 2, 3] rfl rfl rfl (by decide) rfl rfl (fun H locs hP hD hS => ?_)
      refine lv_iinc (v := nI (k35 + 1)) (lv' := [(2, .int (nI (k35 + 1))), (0, .ref m_h), (1, .ref t_h)]) hx hb dX2_begin_69 hl (k := 2) rfl (nI_1 k35) (by decide) rfl (fun ls hl => ?_)
      refine lv_goto (tgt := 35) hx hb dX2_begin_72 (by decide) ?_
      subst hw
      exact ih _ _ _ hP hD hS (lv_sub hl [1, 2, 0] rfl)
    · refine lv_if_eq (tgt := 65) hx hb dX2_begin_51 (by decide) (fun c_51 => ?_) (fun c_51 => ?_)
      · have ez3 := ez3.trans (if_pos c_51)
        refine lv_iconst (v := 0) hx hb dX2_begin_65 (by decide) ?_
        subst ez3
        exact hJ _ _ hP hD hS
      · have ez3 := ez3.trans (if_neg c_51)
        refine lv_aload_n hx hb dX2_begin_54 rfl (lv_at hl 1 rfl) ?_
        refine va_get (D := (dC, dI)) (ci := 3) (v := .ref t_winds) (C := RX3) (T := TX3) (N := 8) hx hb hts hinX3 hown hK hP 1 rfl rfl 3 (by decide) w8 (fun _ h9 => h9) rfl dX2_begin_55 ?_
        refine lv_iload_n hx hb dX2_begin_58 rfl (lv_at hl 2 rfl) ?_
        obtain ⟨r4, er4, ez3⟩ := lxb_o ez3
        refine hg_ci (va_runSN (As := [.ref t_winds, .int (nI k35)]) (rest := [.int (nI k35), .ref m_wind]) ⟨hx, hb, hml, hown, hts⟩ (c_X4_at l dC dI cI cZ cM _ t_winds (nI k35) 6 t_winds_v (by decide) r4 er4) ⟨va_cnB 2 hts gX2_begin_X4_at_n47 rfl rfl rfl hN.2.2.1 w20 (by decide +kernel) ⟨Nat.le_of_ble_eq_true rfl, Nat.le_of_ble_eq_true rfl⟩, w19, trivial⟩ (hgPreS hP hD hK hN [2] rfl rfl) rfl rfl hl.1 rfl (lv_room (Nat.le_of_ble_eq_true rfl)) dX2_begin_59 ⟨Nat.zero_le _, Nat.zero_le _⟩) hP hD hS hA (wr := [(m_h, .inr (2, [.int r1, .int 0, .int 0, .int 0, .int 0, .int 0, .ref m_wind])), (t_h, .inr (3, [.int t_players, .int t_bars, .ref t_prices, .ref t_winds, .ref t_kinds, .ref t_looks, .ref t_noises, .ref t_repeats])), (m_wind, .inl (cI, 6, .inl v35))]) (wf := [(m_h, .inr (2, [.int r1, .int 0, .int 0, .int 0, .int 0, .int 0, .ref m_wind])), (t_h, .inr (3, [.int t_players, .int t_bars, .ref t_prices, .ref t_winds, .ref t_kinds, .ref t_looks, .ref t_noises, .ref t_repeats])), (t_winds, .inl (cI, 6, .inl t_winds_v)), (m_wind, .inl (cI, 6, .inl v35))]) [2] [0, 1, 3] [0, 1, 3, 2] rfl rfl rfl (by decide) rfl rfl (fun H locs hP hD hS => ?_)
        refine lv_goto (tgt := 66) hx hb dX2_begin_62 (by decide) ?_
        subst ez3
        exact hJ _ _ hP hD hS

set_option maxHeartbeats 4000000 in
set_option maxRecDepth 100000 in
theorem c_X2_tire (l : Launch) (dC : Nat → ClassId) (dI : Nat → Nat → Nat) (cI cZ cM : ClassId) (sz : Nat) (m_h : Nat) (x0 : Int32) (m_playing : Int32) (m_paid : Int32) (m_next : Int32) (m_taken : Int32) (m_hat : Int32) (m_time : Int32) (m_wind : Nat) (u : Int32) (hu : u = f_X2_tire x0 m_playing) : Met l yX2_tire wsX2_tire { frames := 0, cells := 0, slots := 0, locals := 0 } (hgPc [.ref m_h, .int x0] (dC, dI) cI cZ cM [(m_h, .inr (2, [.int m_playing, .int m_paid, .int m_next, .int m_taken, .int m_hat, .int m_time, .ref m_wind]))] sz) (hgQv (dC, dI) [(m_h, .inr (2, [.int u, .int m_paid, .int m_next, .int m_taken, .int m_hat, .int m_time, .ref m_wind]))] (va_A [(m_h, .inr (2, [.int m_playing, .int m_paid, .int m_next, .int m_taken, .int m_hat, .int m_time, .ref m_wind]))] sz)) 0 0 (va_A [(m_h, .inr (2, [.int m_playing, .int m_paid, .int m_next, .int m_taken, .int m_hat, .int m_time, .ref m_wind]))] sz) := by
  refine hg_ofW (cc := cX2_tire) (maxL := 2) (ret := none) (own := RX2) (fun A => hgQv (dC, dI) [(m_h, .inr (2, [.int u, .int m_paid, .int m_next, .int m_taken, .int m_hat, .int m_time, .ref m_wind]))] A) rfl (by decide) rfl (Nat.le_of_ble_eq_true rfl) ?_
  intro p e s m below meth c ls A hsz hx hb hr hml hown hts hlk hnm hK hN hA hP hD hS hl
  subst hsz
  have w1 := hts (.fieldLink RX2 21 "HatGoesRound$Moment" "playing" "I") (List.mem_of_getElem? (i := 1) rfl)
  have hinX2 : ∀ w ∈ u_ws RX2 TX2 7, w ∈ wsX2_tire := fun _ h => List.mem_cons_of_mem _ (List.mem_append_right _ h)
  have hl : lv_has ls 2 [(0, .ref m_h), (1, .int x0)] := hl
  unfold f_X2_tire at hu
  refine lv_aload_n hx hb dX2_tire_0 rfl (lv_at hl 0 rfl) ?_
  refine lv_dup hx hb dX2_tire_1 rfl ?_
  refine va_get (D := (dC, dI)) (ci := 2) (v := .int m_playing) (C := RX2) (T := TX2) (N := 7) hx hb hts hinX2 hown hK hP 0 rfl rfl 0 (by decide) w1 (fun _ h9 => h9) rfl dX2_tire_2 ?_
  refine lv_iload_n hx hb dX2_tire_5 rfl (lv_at hl 1 rfl) ?_
  refine lv_iconst (v := (-1)) hx hb dX2_tire_6 (by decide) ?_
  refine lv_ixor hx hb dX2_tire_7 ?_
  refine lv_iand hx hb dX2_tire_8 ?_
  refine va_put (D := (dC, dI)) (ci := 2) (v := .int (m_playing &&& (x0 ^^^ (-1)))) (ty := .int) (C := RX2) (T := TX2) (N := 7) hx hb hts hinX2 tyX2 tyX2_ok nmX2 hown hK hP hD hS 0 rfl rfl 0 (by decide) w1 (fun _ h9 => h9) rfl (by decide +kernel) rfl rfl (Nat.le_of_ble_eq_true rfl) dX2_tire_9 (fun H locs hP hD hS => ?_)
  have hP : va_P (dC, dI) vwCl [(m_h, .inr (2, [.int (m_playing &&& (x0 ^^^ (-1))), .int m_paid, .int m_next, .int m_taken, .int m_hat, .int m_time, .ref m_wind]))] H := hP
  have hD : va_D A [(m_h, .inr (2, [.int (m_playing &&& (x0 ^^^ (-1))), .int m_paid, .int m_next, .int m_taken, .int m_hat, .int m_time, .ref m_wind]))] := hD
  subst hu
  exact hg_rv hx hb hr hlk hP hD hS dX2_tire_12

set_option maxHeartbeats 4000000 in
set_option maxRecDepth 100000 in
theorem c_X2_payFreely (l : Launch) (dC : Nat → ClassId) (dI : Nat → Nat → Nat) (cI cZ cM : ClassId) (sz : Nat) (m_h : Nat) (x0 : Int32) (m_playing : Int32) (m_paid : Int32) (m_next : Int32) (m_taken : Int32) (m_hat : Int32) (m_time : Int32) (m_wind : Nat) (u : Int32 × Int32) (hu : u = f_X2_payFreely x0 m_playing m_paid) : Met l yX2_payFreely wsX2_payFreely { frames := 0, cells := 0, slots := 0, locals := 0 } (hgPc [.ref m_h, .int x0] (dC, dI) cI cZ cM [(m_h, .inr (2, [.int m_playing, .int m_paid, .int m_next, .int m_taken, .int m_hat, .int m_time, .ref m_wind]))] sz) (hgQv (dC, dI) [(m_h, .inr (2, [.int u.1, .int u.2, .int m_next, .int m_taken, .int m_hat, .int m_time, .ref m_wind]))] (va_A [(m_h, .inr (2, [.int m_playing, .int m_paid, .int m_next, .int m_taken, .int m_hat, .int m_time, .ref m_wind]))] sz)) 0 0 (va_A [(m_h, .inr (2, [.int m_playing, .int m_paid, .int m_next, .int m_taken, .int m_hat, .int m_time, .ref m_wind]))] sz) := by
  refine hg_ofW (cc := cX2_payFreely) (maxL := 2) (ret := none) (own := RX2) (fun A => hgQv (dC, dI) [(m_h, .inr (2, [.int u.1, .int u.2, .int m_next, .int m_taken, .int m_hat, .int m_time, .ref m_wind]))] A) rfl (by decide) rfl (Nat.le_of_ble_eq_true rfl) ?_
  intro p e s m below meth c ls A hsz hx hb hr hml hown hts hlk hnm hK hN hA hP hD hS hl
  subst hsz
  have w1 := hts (.fieldLink RX2 21 "HatGoesRound$Moment" "playing" "I") (List.mem_of_getElem? (i := 1) rfl)
  have hinX2 : ∀ w ∈ u_ws RX2 TX2 7, w ∈ wsX2_payFreely := fun _ h => List.mem_cons_of_mem _ (List.mem_append_right _ h)
  have w2 := hts (.fieldLink RX2 25 "HatGoesRound$Moment" "paid" "I") (List.mem_of_getElem? (i := 2) rfl)
  have hl : lv_has ls 2 [(0, .ref m_h), (1, .int x0)] := hl
  unfold f_X2_payFreely at hu
  refine lv_aload_n hx hb dX2_payFreely_0 rfl (lv_at hl 0 rfl) ?_
  refine lv_dup hx hb dX2_payFreely_1 rfl ?_
  refine va_get (D := (dC, dI)) (ci := 2) (v := .int m_playing) (C := RX2) (T := TX2) (N := 7) hx hb hts hinX2 hown hK hP 0 rfl rfl 0 (by decide) w1 (fun _ h9 => h9) rfl dX2_payFreely_2 ?_
  refine lv_iload_n hx hb dX2_payFreely_5 rfl (lv_at hl 1 rfl) ?_
  refine lv_iconst (v := (-1)) hx hb dX2_payFreely_6 (by decide) ?_
  refine lv_ixor hx hb dX2_payFreely_7 ?_
  refine lv_iand hx hb dX2_payFreely_8 ?_
  refine va_put (D := (dC, dI)) (ci := 2) (v := .int (m_playing &&& (x0 ^^^ (-1)))) (ty := .int) (C := RX2) (T := TX2) (N := 7) hx hb hts hinX2 tyX2 tyX2_ok nmX2 hown hK hP hD hS 0 rfl rfl 0 (by decide) w1 (fun _ h9 => h9) rfl (by decide +kernel) rfl rfl (Nat.le_of_ble_eq_true rfl) dX2_payFreely_9 (fun H locs hP hD hS => ?_)
  have hP : va_P (dC, dI) vwCl [(m_h, .inr (2, [.int (m_playing &&& (x0 ^^^ (-1))), .int m_paid, .int m_next, .int m_taken, .int m_hat, .int m_time, .ref m_wind]))] H := hP
  have hD : va_D A [(m_h, .inr (2, [.int (m_playing &&& (x0 ^^^ (-1))), .int m_paid, .int m_next, .int m_taken, .int m_hat, .int m_time, .ref m_wind]))] := hD
  refine lv_aload_n hx hb dX2_payFreely_12 rfl (lv_at hl 0 rfl) ?_
  refine lv_dup hx hb dX2_payFreely_13 rfl ?_
  refine va_get (D := (dC, dI)) (ci := 2) (v := .int m_paid) (C := RX2) (T := TX2) (N := 7) hx hb hts hinX2 hown hK hP 0 rfl rfl 1 (by decide) w2 (fun _ h9 => h9) rfl dX2_payFreely_14 ?_
  refine lv_iload_n hx hb dX2_payFreely_17 rfl (lv_at hl 1 rfl) ?_
  refine lv_ior hx hb dX2_payFreely_18 ?_
  refine va_put (D := (dC, dI)) (ci := 2) (v := .int (m_paid ||| x0)) (ty := .int) (C := RX2) (T := TX2) (N := 7) hx hb hts hinX2 tyX2 tyX2_ok nmX2 hown hK hP hD hS 0 rfl rfl 1 (by decide) w2 (fun _ h9 => h9) rfl (by decide +kernel) rfl rfl (Nat.le_of_ble_eq_true rfl) dX2_payFreely_19 (fun H locs hP hD hS => ?_)
  have hP : va_P (dC, dI) vwCl [(m_h, .inr (2, [.int (m_playing &&& (x0 ^^^ (-1))), .int (m_paid ||| x0), .int m_next, .int m_taken, .int m_hat, .int m_time, .ref m_wind]))] H := hP
  have hD : va_D A [(m_h, .inr (2, [.int (m_playing &&& (x0 ^^^ (-1))), .int (m_paid ||| x0), .int m_next, .int m_taken, .int m_hat, .int m_time, .ref m_wind]))] := hD
  subst hu
  exact hg_rv hx hb hr hlk hP hD hS dX2_payFreely_22

set_option maxHeartbeats 4000000 in
set_option maxRecDepth 100000 in
theorem c_X2_spendWind (l : Launch) (dC : Nat → ClassId) (dI : Nat → Nat → Nat) (cI cZ cM : ClassId) (sz : Nat) (m_h : Nat) (t_h : Nat) (m_playing : Int32) (m_paid : Int32) (m_next : Int32) (m_taken : Int32) (m_hat : Int32) (m_time : Int32) (m_wind : Nat) (t_players : Int32) (t_bars : Int32) (t_prices : Nat) (t_winds : Nat) (t_kinds : Nat) (t_looks : Nat) (t_noises : Nat) (t_repeats : Nat) (t_noises_v : Nat → Int32) (t_kinds_v : Nat → Int32) (m_wind_v : Nat → Int32) (u : Int32 × (Nat → Int32)) (hu : u = f_X2_spendWind m_playing m_next t_players t_noises_v t_kinds_v m_wind_v) : Met l yX2_spendWind wsX2_spendWind { frames := 2, cells := 0, slots := 0, locals := 42 } (hgPc [.ref m_h, .ref t_h] (dC, dI) cI cZ cM [(m_h, .inr (2, [.int m_playing, .int m_paid, .int m_next, .int m_taken, .int m_hat, .int m_time, .ref m_wind])), (t_h, .inr (3, [.int t_players, .int t_bars, .ref t_prices, .ref t_winds, .ref t_kinds, .ref t_looks, .ref t_noises, .ref t_repeats])), (t_noises, .inl (cI, 8, .inl t_noises_v)), (t_kinds, .inl (cI, 6, .inl t_kinds_v)), (m_wind, .inl (cI, 6, .inl m_wind_v))] sz) (hgQv (dC, dI) [(m_h, .inr (2, [.int u.1, .int m_paid, .int m_next, .int m_taken, .int m_hat, .int m_time, .ref m_wind])), (t_h, .inr (3, [.int t_players, .int t_bars, .ref t_prices, .ref t_winds, .ref t_kinds, .ref t_looks, .ref t_noises, .ref t_repeats])), (t_noises, .inl (cI, 8, .inl t_noises_v)), (t_kinds, .inl (cI, 6, .inl t_kinds_v)), (m_wind, .inl (cI, 6, .inl u.2))] (va_A [(m_h, .inr (2, [.int m_playing, .int m_paid, .int m_next, .int m_taken, .int m_hat, .int m_time, .ref m_wind])), (t_h, .inr (3, [.int t_players, .int t_bars, .ref t_prices, .ref t_winds, .ref t_kinds, .ref t_looks, .ref t_noises, .ref t_repeats])), (t_noises, .inl (cI, 8, .inl t_noises_v)), (t_kinds, .inl (cI, 6, .inl t_kinds_v)), (m_wind, .inl (cI, 6, .inl m_wind_v))] sz)) 0 0 (va_A [(m_h, .inr (2, [.int m_playing, .int m_paid, .int m_next, .int m_taken, .int m_hat, .int m_time, .ref m_wind])), (t_h, .inr (3, [.int t_players, .int t_bars, .ref t_prices, .ref t_winds, .ref t_kinds, .ref t_looks, .ref t_noises, .ref t_repeats])), (t_noises, .inl (cI, 8, .inl t_noises_v)), (t_kinds, .inl (cI, 6, .inl t_kinds_v)), (m_wind, .inl (cI, 6, .inl m_wind_v))] sz) := by
  refine hg_ofW (cc := cX2_spendWind) (maxL := 6) (ret := none) (own := RX2) (fun A => hgQv (dC, dI) [(m_h, .inr (2, [.int u.1, .int m_paid, .int m_next, .int m_taken, .int m_hat, .int m_time, .ref m_wind])), (t_h, .inr (3, [.int t_players, .int t_bars, .ref t_prices, .ref t_winds, .ref t_kinds, .ref t_looks, .ref t_noises, .ref t_repeats])), (t_noises, .inl (cI, 8, .inl t_noises_v)), (t_kinds, .inl (cI, 6, .inl t_kinds_v)), (m_wind, .inl (cI, 6, .inl u.2))] A) rfl (by decide) rfl (Nat.le_of_ble_eq_true rfl) ?_
  intro p e s m below meth c ls A hsz hx hb hr hml hown hts hlk hnm hK hN hA hP hD hS hl
  subst hsz
  have w1 := hts (.fieldLink RX2 90 "HatGoesRound$Told" "noises" "[I") (List.mem_of_getElem? (i := 1) rfl)
  have hinX3 : ∀ w ∈ u_ws RX3 TX3 8, w ∈ wsX2_spendWind := fun _ h => List.mem_cons_of_mem _ (List.mem_append_left _ (List.mem_append_right _ h))
  have w2 := hts (.fieldLink RX2 28 "HatGoesRound$Moment" "next" "I") (List.mem_of_getElem? (i := 2) rfl)
  have hinX2 : ∀ w ∈ u_ws RX2 TX2 7, w ∈ wsX2_spendWind := fun _ h => List.mem_cons_of_mem _ (List.mem_append_right _ h)
  have w11 := hts (.initialized RX4) (List.mem_of_getElem? (i := 11) rfl)
  have w10 := hts (.static yX4_at) (List.mem_of_getElem? (i := 10) rfl)
  have w3 := hts (.fieldLink RX2 93 "HatGoesRound$Told" "players" "I") (List.mem_of_getElem? (i := 3) rfl)
  have w4 := hts (.fieldLink RX2 96 "HatGoesRound$Told" "kinds" "[I") (List.mem_of_getElem? (i := 4) rfl)
  have w5 := hts (.methodLink RX2 102 Lib.Math.max.name) (List.mem_of_getElem? (i := 5) rfl)
  have w6 := hts (.static Lib.Math.max.name) (List.mem_of_getElem? (i := 6) rfl)
  have w7 := hts (.initialized "java/lang/Math") (List.mem_of_getElem? (i := 7) rfl)
  have w8 := hts (.code Lib.Math.max.name Lib.Math.max.code 2 (some .int)) (List.mem_of_getElem? (i := 8) rfl)
  have w9 := hts (.fieldLink RX2 9 "HatGoesRound$Moment" "wind" "[I") (List.mem_of_getElem? (i := 9) rfl)
  have w23 := hts (.static yX4_put) (List.mem_of_getElem? (i := 23) rfl)
  have hl : lv_has ls 6 [(0, .ref m_h), (1, .ref t_h)] := hl
  unfold f_X2_spendWind at hu
  refine lv_aload_n hx hb dX2_spendWind_0 rfl (lv_at hl 1 rfl) ?_
  refine va_get (D := (dC, dI)) (ci := 3) (v := .ref t_noises) (C := RX3) (T := TX3) (N := 8) hx hb hts hinX3 hown hK hP 1 rfl rfl 6 (by decide) w1 (fun _ h9 => h9) rfl dX2_spendWind_1 ?_
  refine lv_aload_n hx hb dX2_spendWind_4 rfl (lv_at hl 0 rfl) ?_
  refine va_get (D := (dC, dI)) (ci := 2) (v := .int m_next) (C := RX2) (T := TX2) (N := 7) hx hb hts hinX2 hown hK hP 0 rfl rfl 2 (by decide) w2 (fun _ h9 => h9) rfl dX2_spendWind_5 ?_
  obtain ⟨r1, er1, hu⟩ := lxb_o hu
  refine hg_ci (va_runSN (As := [.ref t_noises, .int m_next]) (rest := []) ⟨hx, hb, hml, hown, hts⟩ (c_X4_at l dC dI cI cZ cM _ t_noises m_next 8 t_noises_v (by decide) r1 er1) ⟨va_cnB 2 hts gX2_spendWind_X4_at_n47 rfl rfl rfl hN.2.2.1 w11 (by decide +kernel) ⟨Nat.le_of_ble_eq_true rfl, Nat.le_of_ble_eq_true rfl⟩, w10, trivial⟩ (hgPreS hP hD hK hN [2] rfl rfl) rfl rfl hl.1 rfl (lv_room (Nat.le_of_ble_eq_true rfl)) dX2_spendWind_8 ⟨Nat.zero_le _, Nat.zero_le _⟩) hP hD hS hA (wr := [(m_h, .inr (2, [.int m_playing, .int m_paid, .int m_next, .int m_taken, .int m_hat, .int m_time, .ref m_wind])), (t_h, .inr (3, [.int t_players, .int t_bars, .ref t_prices, .ref t_winds, .ref t_kinds, .ref t_looks, .ref t_noises, .ref t_repeats])), (t_kinds, .inl (cI, 6, .inl t_kinds_v)), (m_wind, .inl (cI, 6, .inl m_wind_v))]) (wf := [(m_h, .inr (2, [.int m_playing, .int m_paid, .int m_next, .int m_taken, .int m_hat, .int m_time, .ref m_wind])), (t_h, .inr (3, [.int t_players, .int t_bars, .ref t_prices, .ref t_winds, .ref t_kinds, .ref t_looks, .ref t_noises, .ref t_repeats])), (t_noises, .inl (cI, 8, .inl t_noises_v)), (t_kinds, .inl (cI, 6, .inl t_kinds_v)), (m_wind, .inl (cI, 6, .inl m_wind_v))]) [2] [0, 1, 3, 4] [0, 1, 4, 2, 3] rfl rfl rfl (by decide) rfl rfl (fun H locs hP hD hS => ?_)
  refine lv_iconst (v := 5) hx hb dX2_spendWind_11 (by decide) ?_
  obtain ⟨z2, ez2, hu⟩ := lxb_o hu
  refine hg_cut (D := (dC, dI)) (A0 := A) (H0 := s.heap) (ws := [(m_h, .inr (2, [.int m_playing, .int m_paid, .int m_next, .int m_taken, .int m_hat, .int m_time, .ref m_wind])), (t_h, .inr (3, [.int t_players, .int t_bars, .ref t_prices, .ref t_winds, .ref t_kinds, .ref t_looks, .ref t_noises, .ref t_repeats])), (t_noises, .inl (cI, 8, .inl t_noises_v)), (t_kinds, .inl (cI, 6, .inl t_kinds_v)), (m_wind, .inl (cI, 6, .inl m_wind_v))]) (g := F0 m 20 ls [.int z2]) ?_ (fun hJ => ?_)
  · intro H locs hP hD hS
    refine lv_istore_n (lv' := [(2, .int z2), (0, .ref m_h), (1, .ref t_h)]) hx hb dX2_spendWind_20 rfl hl (by decide) rfl (fun ls hl => ?_)
    refine lv_iconst (v := 0) hx hb dX2_spendWind_21 (by decide) ?_
    refine lv_istore_n (lv' := [(3, .int 0), (2, .int z2), (0, .ref m_h), (1, .ref t_h)]) hx hb dX2_spendWind_22 rfl hl (by decide) rfl (fun ls hl => ?_)
    obtain ⟨r10, er10, hu⟩ := lxb_o hu
    refine hg_loopF (T := Int32 × (Nat → Int32)) (N := (itn 0 t_players)) (fun v23 => [(m_h, .inr (2, [.int v23.1, .int m_paid, .int m_next, .int m_taken, .int m_hat, .int m_time, .ref m_wind])), (t_h, .inr (3, [.int t_players, .int t_bars, .ref t_prices, .ref t_winds, .ref t_kinds, .ref t_looks, .ref t_noises, .ref t_repeats])), (t_noises, .inl (cI, 8, .inl t_noises_v)), (t_kinds, .inl (cI, 6, .inl t_kinds_v)), (m_wind, .inl (cI, 6, .inl v23.2))]) (fun k23 v23 => [(0, .ref m_h), (1, .ref t_h), (2, .int z2), (3, .int (nI k23))]) (fun k23 => l_X2_spendWind_23 t_kinds_v z2 (m_playing, m_wind_v) k23) ?_ ?_ hP hD hS (lv_sub hl [2, 3, 1, 0] rfl)
    · intro v23 hv H locs ls hP hD hS hl
      obtain rfl : r10 = v23 := er10.trans hv.symm
      have hP : va_P (dC, dI) vwCl [(m_h, .inr (2, [.int r10.1, .int m_paid, .int m_next, .int m_taken, .int m_hat, .int m_time, .ref m_wind])), (t_h, .inr (3, [.int t_players, .int t_bars, .ref t_prices, .ref t_winds, .ref t_kinds, .ref t_looks, .ref t_noises, .ref t_repeats])), (t_noises, .inl (cI, 8, .inl t_noises_v)), (t_kinds, .inl (cI, 6, .inl t_kinds_v)), (m_wind, .inl (cI, 6, .inl r10.2))] H := hP
      have hD : va_D A [(m_h, .inr (2, [.int r10.1, .int m_paid, .int m_next, .int m_taken, .int m_hat, .int m_time, .ref m_wind])), (t_h, .inr (3, [.int t_players, .int t_bars, .ref t_prices, .ref t_winds, .ref t_kinds, .ref t_looks, .ref t_noises, .ref t_repeats])), (t_noises, .inl (cI, 8, .inl t_noises_v)), (t_kinds, .inl (cI, 6, .inl t_kinds_v)), (m_wind, .inl (cI, 6, .inl r10.2))] := hD
      have hl : lv_has ls 6 [(0, .ref m_h), (1, .ref t_h), (2, .int z2), (3, .int (nI (itn 0 t_players)))] := hl
      refine lv_iload_n hx hb dX2_spendWind_23 rfl (lv_at hl 3 rfl) ?_
      refine lv_aload_n hx hb dX2_spendWind_24 rfl (lv_at hl 1 rfl) ?_
      refine va_get (D := (dC, dI)) (ci := 3) (v := .int t_players) (C := RX3) (T := TX3) (N := 8) hx hb hts hinX3 hown hK hP 1 rfl rfl 0 (by decide) w3 (fun _ h9 => h9) rfl dX2_spendWind_25 ?_
      refine lv_icmp_ge (tgt := 104) hx hb dX2_spendWind_28 (by decide) (fun c_28 => ?_) (fun c_28 => absurd hg_lo0 c_28)
      subst hu
      exact hg_rv hx hb hr hlk hP hD hS dX2_spendWind_104
    · intro k23 hk v23 hv w hw ih H locs ls hP hD hS hl
      have hw : w = b_X2_spendWind_23 t_kinds_v z2 k23 v23 := by rw [hw, hv]; rfl
      unfold b_X2_spendWind_23 at hw
      have hP : va_P (dC, dI) vwCl [(m_h, .inr (2, [.int v23.1, .int m_paid, .int m_next, .int m_taken, .int m_hat, .int m_time, .ref m_wind])), (t_h, .inr (3, [.int t_players, .int t_bars, .ref t_prices, .ref t_winds, .ref t_kinds, .ref t_looks, .ref t_noises, .ref t_repeats])), (t_noises, .inl (cI, 8, .inl t_noises_v)), (t_kinds, .inl (cI, 6, .inl t_kinds_v)), (m_wind, .inl (cI, 6, .inl v23.2))] H := hP
      have hD : va_D A [(m_h, .inr (2, [.int v23.1, .int m_paid, .int m_next, .int m_taken, .int m_hat, .int m_time, .ref m_wind])), (t_h, .inr (3, [.int t_players, .int t_bars, .ref t_prices, .ref t_winds, .ref t_kinds, .ref t_looks, .ref t_noises, .ref t_repeats])), (t_noises, .inl (cI, 8, .inl t_noises_v)), (t_kinds, .inl (cI, 6, .inl t_kinds_v)), (m_wind, .inl (cI, 6, .inl v23.2))] := hD
      have hl : lv_has ls 6 [(0, .ref m_h), (1, .ref t_h), (2, .int z2), (3, .int (nI k23))] := hl
      refine lv_iload_n hx hb dX2_spendWind_23 rfl (lv_at hl 3 rfl) ?_
      refine lv_aload_n hx hb dX2_spendWind_24 rfl (lv_at hl 1 rfl) ?_
      refine va_get (D := (dC, dI)) (ci := 3) (v := .int t_players) (C := RX3) (T := TX3) (N := 8) hx hb hts hinX3 hown hK hP 1 rfl rfl 0 (by decide) w3 (fun _ h9 => h9) rfl dX2_spendWind_25 ?_
      refine lv_icmp_ge (tgt := 104) hx hb dX2_spendWind_28 (by decide) (fun c_28 => absurd c_28 (hg_lo1 hk)) (fun c_28 => ?_)
      refine lv_aload_n hx hb dX2_spendWind_31 rfl (lv_at hl 0 rfl) ?_
      refine lv_iload_n hx hb dX2_spendWind_32 rfl (lv_at hl 3 rfl) ?_
      obtain ⟨r3, er3, hw⟩ := lxb_o hw
      refine hg_ci (va_runV (As := [.int (nI k23)]) (rest := []) ⟨hx, hb, hml, hown, hts⟩ (c_X2_isPlaying l dC dI cI cZ cM _ m_h (nI k23) v23.1 m_paid m_next m_taken m_hat m_time m_wind r3 er3) (cwV 1 hts gX2_spendWind_X2_isPlaying rfl rfl rfl (by decide +kernel) ⟨Nat.le_of_ble_eq_true rfl, Nat.le_of_ble_eq_true rfl⟩) (hgPreV (C := RX2) (T := TX2) (N := 7) (ci := 2) (q0 := 0) hP hD hK hN [0] rfl rfl rfl rfl) rfl rfl hl.1 rfl (lv_room (Nat.le_of_ble_eq_true rfl)) dX2_spendWind_33 ⟨Nat.zero_le _, Nat.zero_le _⟩) hP hD hS hA (wr := [(t_h, .inr (3, [.int t_players, .int t_bars, .ref t_prices, .ref t_winds, .ref t_kinds, .ref t_looks, .ref t_noises, .ref t_repeats])), (t_noises, .inl (cI, 8, .inl t_noises_v)), (t_kinds, .inl (cI, 6, .inl t_kinds_v)), (m_wind, .inl (cI, 6, .inl v23.2))]) (wf := [(m_h, .inr (2, [.int v23.1, .int m_paid, .int m_next, .int m_taken, .int m_hat, .int m_time, .ref m_wind])), (t_h, .inr (3, [.int t_players, .int t_bars, .ref t_prices, .ref t_winds, .ref t_kinds, .ref t_looks, .ref t_noises, .ref t_repeats])), (t_noises, .inl (cI, 8, .inl t_noises_v)), (t_kinds, .inl (cI, 6, .inl t_kinds_v)), (m_wind, .inl (cI, 6, .inl v23.2))]) [0] [1, 2, 3, 4] [4, 0, 1, 2, 3] rfl rfl rfl (by decide) rfl rfl (fun H locs hP hD hS => ?_)
      refine lv_if_eq (tgt := 98) hx hb dX2_spendWind_36 (by decide) (fun c_36 => ?_) (fun c_36 => ?_)
      · have hw := hw.trans (if_pos c_36)
        refine lv_iinc (v := nI (k23 + 1)) (lv' := [(3, .int (nI (k23 + 1))), (0, .ref m_h), (1, .ref t_h), (2, .int z2)]) hx hb dX2_spendWind_98 hl (k := 3) rfl (nI_1 k23) (by decide) rfl (fun ls hl => ?_)
        refine lv_goto (tgt := 23) hx hb dX2_spendWind_101 (by decide) ?_
        subst hw
        exact ih _ _ _ hP hD hS (lv_sub hl [1, 2, 3, 0] rfl)
      · have hw := hw.trans (if_neg c_36)
        refine lv_iload_n hx hb dX2_spendWind_39 rfl (lv_at hl 2 rfl) ?_
        obtain ⟨z4, ez4, hw⟩ := lxb_o hw
        refine hg_cut (D := (dC, dI)) (A0 := A) (H0 := s.heap) (ws := [(m_h, .inr (2, [.int v23.1, .int m_paid, .int m_next, .int m_taken, .int m_hat, .int m_time, .ref m_wind])), (t_h, .inr (3, [.int t_players, .int t_bars, .ref t_prices, .ref t_winds, .ref t_kinds, .ref t_looks, .ref t_noises, .ref t_repeats])), (t_noises, .inl (cI, 8, .inl t_noises_v)), (t_kinds, .inl (cI, 6, .inl t_kinds_v)), (m_wind, .inl (cI, 6, .inl v23.2))]) (g := F0 m 60 ls [.int z4]) ?_ (fun hJ => ?_)
        · intro H locs hP hD hS
          refine lv_istore (lv' := [(4, .int z4), (0, .ref m_h), (1, .ref t_h), (2, .int z2), (3, .int (nI k23))]) hx hb dX2_spendWind_60 hl (by decide) rfl (fun ls hl => ?_)
          refine lv_iconst (v := 0) hx hb dX2_spendWind_62 (by decide) ?_
          refine lv_aload_n hx hb dX2_spendWind_63 rfl (lv_at hl 1 rfl) ?_
          refine lv_iload_n hx hb dX2_spendWind_64 rfl (lv_at hl 4 rfl) ?_
          obtain ⟨r6, er6, hw⟩ := lxb_o hw
          refine hg_ci (va_runV (As := [.int (nI k23)]) (rest := [.int 0]) ⟨hx, hb, hml, hown, hts⟩ (c_X2_windOf l dC dI cI cZ cM _ m_h (nI k23) v23.1 m_paid m_next m_taken m_hat m_time m_wind v23.2 r6 er6) (cwV 1 hts gX2_spendWind_X2_windOf rfl rfl rfl (by decide +kernel) ⟨Nat.le_of_ble_eq_true rfl, Nat.le_of_ble_eq_true rfl⟩) (hgPreV (C := RX2) (T := TX2) (N := 7) (ci := 2) (q0 := 0) hP hD hK hN [0, 4] rfl rfl rfl rfl) rfl rfl hl.1 rfl (lv_room (Nat.le_of_ble_eq_true rfl)) dX2_spendWind_65 ⟨Nat.zero_le _, Nat.zero_le _⟩) hP hD hS hA (wr := [(t_h, .inr (3, [.int t_players, .int t_bars, .ref t_prices, .ref t_winds, .ref t_kinds, .ref t_looks, .ref t_noises, .ref t_repeats])), (t_noises, .inl (cI, 8, .inl t_noises_v)), (t_kinds, .inl (cI, 6, .inl t_kinds_v))]) (wf := [(m_h, .inr (2, [.int v23.1, .int m_paid, .int m_next, .int m_taken, .int m_hat, .int m_time, .ref m_wind])), (t_h, .inr (3, [.int t_players, .int t_bars, .ref t_prices, .ref t_winds, .ref t_kinds, .ref t_looks, .ref t_noises, .ref t_repeats])), (t_noises, .inl (cI, 8, .inl t_noises_v)), (t_kinds, .inl (cI, 6, .inl t_kinds_v)), (m_wind, .inl (cI, 6, .inl v23.2))]) [0, 4] [1, 2, 3] [3, 0, 1, 2, 4] rfl rfl rfl (by decide) rfl rfl (fun H locs hP hD hS => ?_)
          refine lv_iload hx hb dX2_spendWind_68 (lv_at hl 0 rfl) ?_
          refine lv_isub hx hb dX2_spendWind_70 ?_
          refine va_mmax hx hb (hml.trans hl.1.symm) hown w5 w6 w7 w8 (Nat.le_of_ble_eq_true rfl) (Nat.le_of_ble_eq_true rfl) (Nat.zero_le _) (Nat.zero_le _) dX2_spendWind_71 ?_
          obtain ⟨y7, ey7, hw⟩ := lxb_o hw
          refine lv_topi (fun z ez => ?_)
          obtain rfl : y7 = z := ey7.trans ez.symm
          refine lv_istore (lv' := [(5, .int y7), (4, .int z4), (0, .ref m_h), (1, .ref t_h), (2, .int z2), (3, .int (nI k23))]) hx hb dX2_spendWind_74 hl (by decide) rfl (fun ls hl => ?_)
          refine lv_aload_n hx hb dX2_spendWind_76 rfl (lv_at hl 2 rfl) ?_
          refine va_get (D := (dC, dI)) (ci := 2) (v := .ref m_wind) (C := RX2) (T := TX2) (N := 7) hx hb hts hinX2 hown hK hP 0 rfl rfl 6 (by decide) w9 (fun _ h9 => h9) rfl dX2_spendWind_77 ?_
          refine lv_iload_n hx hb dX2_spendWind_80 rfl (lv_at hl 5 rfl) ?_
          refine lv_iload hx hb dX2_spendWind_81 (lv_at hl 0 rfl) ?_
          obtain ⟨r8, er8, hw⟩ := lxb_o hw
          refine hg_cv (va_runSN (As := [.ref m_wind, .int (nI k23), .int y7]) (rest := []) ⟨hx, hb, hml, hown, hts⟩ (c_X4_put l dC dI cI cZ cM _ m_wind (nI k23) y7 6 v23.2 (by decide) r8 er8) ⟨va_cnB 3 hts gX2_spendWind_X4_put_n51 rfl rfl rfl hN.2.2.2.1 w11 (by decide +kernel) ⟨Nat.le_of_ble_eq_true rfl, Nat.le_of_ble_eq_true rfl⟩, w23, trivial⟩ (hgPreS hP hD hK hN [4] rfl rfl) rfl rfl hl.1 rfl (lv_room (Nat.le_of_ble_eq_true rfl)) dX2_spendWind_83 ⟨Nat.zero_le _, Nat.zero_le _⟩) hP hD hS hA (wr := [(m_h, .inr (2, [.int v23.1, .int m_paid, .int m_next, .int m_taken, .int m_hat, .int m_time, .ref m_wind])), (t_h, .inr (3, [.int t_players, .int t_bars, .ref t_prices, .ref t_winds, .ref t_kinds, .ref t_looks, .ref t_noises, .ref t_repeats])), (t_noises, .inl (cI, 8, .inl t_noises_v)), (t_kinds, .inl (cI, 6, .inl t_kinds_v))]) (wf := [(m_h, .inr (2, [.int v23.1, .int m_paid, .int m_next, .int m_taken, .int m_hat, .int m_time, .ref m_wind])), (t_h, .inr (3, [.int t_players, .int t_bars, .ref t_prices, .ref t_winds, .ref t_kinds, .ref t_looks, .ref t_noises, .ref t_repeats])), (t_noises, .inl (cI, 8, .inl t_noises_v)), (t_kinds, .inl (cI, 6, .inl t_kinds_v)), (m_wind, .inl (cI, 6, .inl r8))]) [4] [0, 1, 2, 3] [0, 1, 2, 3, 4] rfl rfl rfl (by decide) rfl rfl (fun H locs hP hD hS => ?_)
          refine lv_iload hx hb dX2_spendWind_86 (lv_at hl 0 rfl) ?_
          refine lv_if_ne (tgt := 98) hx hb dX2_spendWind_88 (by decide) (fun c_88 => ?_) (fun c_88 => ?_)
          · have hw := hw.trans (if_neg c_88)
            refine lv_iinc (v := nI (k23 + 1)) (lv' := [(3, .int (nI (k23 + 1))), (5, .int y7), (4, .int z4), (0, .ref m_h), (1, .ref t_h), (2, .int z2)]) hx hb dX2_spendWind_98 hl (k := 5) rfl (nI_1 k23) (by decide) rfl (fun ls hl => ?_)
            refine lv_goto (tgt := 23) hx hb dX2_spendWind_101 (by decide) ?_
            subst hw
            exact ih _ _ _ hP hD hS (lv_sub hl [3, 4, 5, 0] rfl)
          · have hw := hw.trans (if_pos c_88)
            refine lv_aload_n hx hb dX2_spendWind_91 rfl (lv_at hl 2 rfl) ?_
            refine lv_iconst (v := 1) hx hb dX2_spendWind_92 (by decide) ?_
            refine lv_iload_n hx hb dX2_spendWind_93 rfl (lv_at hl 5 rfl) ?_
            refine lv_ishl hx hb dX2_spendWind_94 ?_
            obtain ⟨r9, er9, hw⟩ := lxb_o hw
            refine hg_cv (va_runV (As := [.int (1 <<< (nI k23 &&& 31))]) (rest := []) ⟨hx, hb, hml, hown, hts⟩ (c_X2_tire l dC dI cI cZ cM _ m_h (1 <<< (nI k23 &&& 31)) v23.1 m_paid m_next m_taken m_hat m_time m_wind r9 er9) (cwV 1 hts gX2_spendWind_X2_tire rfl rfl rfl (by decide +kernel) ⟨Nat.le_of_ble_eq_true rfl, Nat.le_of_ble_eq_true rfl⟩) (hgPreV (C := RX2) (T := TX2) (N := 7) (ci := 2) (q0 := 0) hP hD hK hN [0] rfl rfl rfl rfl) rfl rfl hl.1 rfl (lv_room (Nat.le_of_ble_eq_true rfl)) dX2_spendWind_95 ⟨Nat.zero_le _, Nat.zero_le _⟩) hP hD hS hA (wr := [(t_h, .inr (3, [.int t_players, .int t_bars, .ref t_prices, .ref t_winds, .ref t_kinds, .ref t_looks, .ref t_noises, .ref t_repeats])), (t_noises, .inl (cI, 8, .inl t_noises_v)), (t_kinds, .inl (cI, 6, .inl t_kinds_v)), (m_wind, .inl (cI, 6, .inl r8))]) (wf := [(m_h, .inr (2, [.int r9, .int m_paid, .int m_next, .int m_taken, .int m_hat, .int m_time, .ref m_wind])), (t_h, .inr (3, [.int t_players, .int t_bars, .ref t_prices, .ref t_winds, .ref t_kinds, .ref t_looks, .ref t_noises, .ref t_repeats])), (t_noises, .inl (cI, 8, .inl t_noises_v)), (t_kinds, .inl (cI, 6, .inl t_kinds_v)), (m_wind, .inl (cI, 6, .inl r8))]) [0] [1, 2, 3, 4] [4, 0, 1, 2, 3] rfl rfl rfl (by decide) rfl rfl (fun H locs hP hD hS => ?_)
            refine lv_iinc (v := nI (k23 + 1)) (lv' := [(3, .int (nI (k23 + 1))), (5, .int y7), (4, .int z4), (0, .ref m_h), (1, .ref t_h), (2, .int z2)]) hx hb dX2_spendWind_98 hl (k := 5) rfl (nI_1 k23) (by decide) rfl (fun ls hl => ?_)
            refine lv_goto (tgt := 23) hx hb dX2_spendWind_101 (by decide) ?_
            subst hw
            exact ih _ _ _ hP hD hS (lv_sub hl [3, 4, 5, 0] rfl)
        · refine lv_if_eq (tgt := 59) hx hb dX2_spendWind_40 (by decide) (fun c_40 => ?_) (fun c_40 => ?_)
          · have ez4 := ez4.trans (if_pos c_40)
            refine lv_iconst (v := 1) hx hb dX2_spendWind_59 (by decide) ?_
            subst ez4
            exact hJ _ _ hP hD hS
          · have ez4 := ez4.trans (if_neg c_40)
            refine lv_aload_n hx hb dX2_spendWind_43 rfl (lv_at hl 1 rfl) ?_
            refine va_get (D := (dC, dI)) (ci := 3) (v := .ref t_kinds) (C := RX3) (T := TX3) (N := 8) hx hb hts hinX3 hown hK hP 1 rfl rfl 4 (by decide) w4 (fun _ h9 => h9) rfl dX2_spendWind_44 ?_
            refine lv_iload_n hx hb dX2_spendWind_47 rfl (lv_at hl 3 rfl) ?_
            obtain ⟨r5, er5, ez4⟩ := lxb_o ez4
            refine hg_ci (va_runSN (As := [.ref t_kinds, .int (nI k23)]) (rest := []) ⟨hx, hb, hml, hown, hts⟩ (c_X4_at l dC dI cI cZ cM _ t_kinds (nI k23) 6 t_kinds_v (by decide) r5 er5) ⟨va_cnB 2 hts gX2_spendWind_X4_at_n47 rfl rfl rfl hN.2.2.1 w11 (by decide +kernel) ⟨Nat.le_of_ble_eq_true rfl, Nat.le_of_ble_eq_true rfl⟩, w10, trivial⟩ (hgPreS hP hD hK hN [3] rfl rfl) rfl rfl hl.1 rfl (lv_room (Nat.le_of_ble_eq_true rfl)) dX2_spendWind_48 ⟨Nat.zero_le _, Nat.zero_le _⟩) hP hD hS hA (wr := [(m_h, .inr (2, [.int v23.1, .int m_paid, .int m_next, .int m_taken, .int m_hat, .int m_time, .ref m_wind])), (t_h, .inr (3, [.int t_players, .int t_bars, .ref t_prices, .ref t_winds, .ref t_kinds, .ref t_looks, .ref t_noises, .ref t_repeats])), (t_noises, .inl (cI, 8, .inl t_noises_v)), (m_wind, .inl (cI, 6, .inl v23.2))]) (wf := [(m_h, .inr (2, [.int v23.1, .int m_paid, .int m_next, .int m_taken, .int m_hat, .int m_time, .ref m_wind])), (t_h, .inr (3, [.int t_players, .int t_bars, .ref t_prices, .ref t_winds, .ref t_kinds, .ref t_looks, .ref t_noises, .ref t_repeats])), (t_noises, .inl (cI, 8, .inl t_noises_v)), (t_kinds, .inl (cI, 6, .inl t_kinds_v)), (m_wind, .inl (cI, 6, .inl v23.2))]) [3] [0, 1, 2, 4] [0, 1, 2, 4, 3] rfl rfl rfl (by decide) rfl rfl (fun H locs hP hD hS => ?_)
            refine lv_iconst (v := 2) hx hb dX2_spendWind_51 (by decide) ?_
            refine lv_icmp_ne (tgt := 59) hx hb dX2_spendWind_52 (by decide) (fun c_52 => ?_) (fun c_52 => ?_)
            · have ez4 := ez4.trans (if_neg c_52)
              refine lv_iconst (v := 1) hx hb dX2_spendWind_59 (by decide) ?_
              subst ez4
              exact hJ _ _ hP hD hS
            · have ez4 := ez4.trans (if_pos c_52)
              refine lv_iconst (v := 2) hx hb dX2_spendWind_55 (by decide) ?_
              refine lv_goto (tgt := 60) hx hb dX2_spendWind_56 (by decide) ?_
              subst ez4
              exact hJ _ _ hP hD hS
  · refine lv_icmp_lt (tgt := 19) hx hb dX2_spendWind_12 (by decide) (fun c_12 => ?_) (fun c_12 => ?_)
    · have ez2 := ez2.trans (if_pos c_12)
      refine lv_iconst (v := 0) hx hb dX2_spendWind_19 (by decide) ?_
      subst ez2
      exact hJ _ _ hP hD hS
    · have ez2 := ez2.trans (if_neg c_12)
      refine lv_iconst (v := 1) hx hb dX2_spendWind_15 (by decide) ?_
      refine lv_goto (tgt := 20) hx hb dX2_spendWind_16 (by decide) ?_
      subst ez2
      exact hJ _ _ hP hD hS

set_option maxHeartbeats 4000000 in
set_option maxRecDepth 100000 in
theorem c_X2_tireLeaners (l : Launch) (dC : Nat → ClassId) (dI : Nat → Nat → Nat) (cI cZ cM : ClassId) (sz : Nat) (m_h : Nat) (t_h : Nat) (m_playing : Int32) (m_paid : Int32) (m_next : Int32) (m_taken : Int32) (m_hat : Int32) (m_time : Int32) (m_wind : Nat) (t_players : Int32) (t_bars : Int32) (t_prices : Nat) (t_winds : Nat) (t_kinds : Nat) (t_looks : Nat) (t_noises : Nat) (t_repeats : Nat) (t_looks_v : Nat → Int32) (t_kinds_v : Nat → Int32) (u : Int32) (hu : u = f_X2_tireLeaners m_playing t_players t_looks_v t_kinds_v) : Met l yX2_tireLeaners wsX2_tireLeaners { frames := 1, cells := 0, slots := 0, locals := 21 } (hgPc [.ref m_h, .ref t_h] (dC, dI) cI cZ cM [(m_h, .inr (2, [.int m_playing, .int m_paid, .int m_next, .int m_taken, .int m_hat, .int m_time, .ref m_wind])), (t_h, .inr (3, [.int t_players, .int t_bars, .ref t_prices, .ref t_winds, .ref t_kinds, .ref t_looks, .ref t_noises, .ref t_repeats])), (t_looks, .inl (cI, 6, .inl t_looks_v)), (t_kinds, .inl (cI, 6, .inl t_kinds_v))] sz) (hgQv (dC, dI) [(m_h, .inr (2, [.int u, .int m_paid, .int m_next, .int m_taken, .int m_hat, .int m_time, .ref m_wind])), (t_h, .inr (3, [.int t_players, .int t_bars, .ref t_prices, .ref t_winds, .ref t_kinds, .ref t_looks, .ref t_noises, .ref t_repeats])), (t_looks, .inl (cI, 6, .inl t_looks_v)), (t_kinds, .inl (cI, 6, .inl t_kinds_v))] (va_A [(m_h, .inr (2, [.int m_playing, .int m_paid, .int m_next, .int m_taken, .int m_hat, .int m_time, .ref m_wind])), (t_h, .inr (3, [.int t_players, .int t_bars, .ref t_prices, .ref t_winds, .ref t_kinds, .ref t_looks, .ref t_noises, .ref t_repeats])), (t_looks, .inl (cI, 6, .inl t_looks_v)), (t_kinds, .inl (cI, 6, .inl t_kinds_v))] sz)) 0 0 (va_A [(m_h, .inr (2, [.int m_playing, .int m_paid, .int m_next, .int m_taken, .int m_hat, .int m_time, .ref m_wind])), (t_h, .inr (3, [.int t_players, .int t_bars, .ref t_prices, .ref t_winds, .ref t_kinds, .ref t_looks, .ref t_noises, .ref t_repeats])), (t_looks, .inl (cI, 6, .inl t_looks_v)), (t_kinds, .inl (cI, 6, .inl t_kinds_v))] sz) := by
  refine hg_ofW (cc := cX2_tireLeaners) (maxL := 4) (ret := none) (own := RX2) (fun A => hgQv (dC, dI) [(m_h, .inr (2, [.int u, .int m_paid, .int m_next, .int m_taken, .int m_hat, .int m_time, .ref m_wind])), (t_h, .inr (3, [.int t_players, .int t_bars, .ref t_prices, .ref t_winds, .ref t_kinds, .ref t_looks, .ref t_noises, .ref t_repeats])), (t_looks, .inl (cI, 6, .inl t_looks_v)), (t_kinds, .inl (cI, 6, .inl t_kinds_v))] A) rfl (by decide) rfl (Nat.le_of_ble_eq_true rfl) ?_
  intro p e s m below meth c ls A hsz hx hb hr hml hown hts hlk hnm hK hN hA hP hD hS hl
  subst hsz
  have w1 := hts (.fieldLink RX2 93 "HatGoesRound$Told" "players" "I") (List.mem_of_getElem? (i := 1) rfl)
  have hinX3 : ∀ w ∈ u_ws RX3 TX3 8, w ∈ wsX2_tireLeaners := fun _ h => List.mem_cons_of_mem _ (List.mem_append_left _ (List.mem_append_right _ h))
  have w2 := hts (.fieldLink RX2 112 "HatGoesRound$Told" "looks" "[I") (List.mem_of_getElem? (i := 2) rfl)
  have w5 := hts (.initialized RX4) (List.mem_of_getElem? (i := 5) rfl)
  have w4 := hts (.static yX4_at) (List.mem_of_getElem? (i := 4) rfl)
  have w3 := hts (.fieldLink RX2 96 "HatGoesRound$Told" "kinds" "[I") (List.mem_of_getElem? (i := 3) rfl)
  have hl : lv_has ls 4 [(0, .ref m_h), (1, .ref t_h)] := hl
  unfold f_X2_tireLeaners at hu
  refine lv_iconst (v := 0) hx hb dX2_tireLeaners_0 (by decide) ?_
  refine lv_istore_n (lv' := [(2, .int 0), (0, .ref m_h), (1, .ref t_h)]) hx hb dX2_tireLeaners_1 rfl hl (by decide) rfl (fun ls hl => ?_)
  obtain ⟨r6, er6, hu⟩ := lxb_o hu
  refine hg_loopF (T := Int32) (N := (itn 0 t_players)) (fun v2 => [(m_h, .inr (2, [.int v2, .int m_paid, .int m_next, .int m_taken, .int m_hat, .int m_time, .ref m_wind])), (t_h, .inr (3, [.int t_players, .int t_bars, .ref t_prices, .ref t_winds, .ref t_kinds, .ref t_looks, .ref t_noises, .ref t_repeats])), (t_looks, .inl (cI, 6, .inl t_looks_v)), (t_kinds, .inl (cI, 6, .inl t_kinds_v))]) (fun k2 v2 => [(0, .ref m_h), (1, .ref t_h), (2, .int (nI k2))]) (fun k2 => l_X2_tireLeaners_2 t_players t_looks_v t_kinds_v m_playing k2) ?_ ?_ hP hD hS (lv_sub hl [1, 2, 0] rfl)
  · intro v2 hv H locs ls hP hD hS hl
    obtain rfl : r6 = v2 := er6.trans hv.symm
    have hP : va_P (dC, dI) vwCl [(m_h, .inr (2, [.int r6, .int m_paid, .int m_next, .int m_taken, .int m_hat, .int m_time, .ref m_wind])), (t_h, .inr (3, [.int t_players, .int t_bars, .ref t_prices, .ref t_winds, .ref t_kinds, .ref t_looks, .ref t_noises, .ref t_repeats])), (t_looks, .inl (cI, 6, .inl t_looks_v)), (t_kinds, .inl (cI, 6, .inl t_kinds_v))] H := hP
    have hD : va_D A [(m_h, .inr (2, [.int r6, .int m_paid, .int m_next, .int m_taken, .int m_hat, .int m_time, .ref m_wind])), (t_h, .inr (3, [.int t_players, .int t_bars, .ref t_prices, .ref t_winds, .ref t_kinds, .ref t_looks, .ref t_noises, .ref t_repeats])), (t_looks, .inl (cI, 6, .inl t_looks_v)), (t_kinds, .inl (cI, 6, .inl t_kinds_v))] := hD
    have hl : lv_has ls 4 [(0, .ref m_h), (1, .ref t_h), (2, .int (nI (itn 0 t_players)))] := hl
    refine lv_iload_n hx hb dX2_tireLeaners_2 rfl (lv_at hl 2 rfl) ?_
    refine lv_aload_n hx hb dX2_tireLeaners_3 rfl (lv_at hl 1 rfl) ?_
    refine va_get (D := (dC, dI)) (ci := 3) (v := .int t_players) (C := RX3) (T := TX3) (N := 8) hx hb hts hinX3 hown hK hP 1 rfl rfl 0 (by decide) w1 (fun _ h9 => h9) rfl dX2_tireLeaners_4 ?_
    refine lv_icmp_ge (tgt := 60) hx hb dX2_tireLeaners_7 (by decide) (fun c_7 => ?_) (fun c_7 => absurd hg_lo0 c_7)
    subst hu
    exact hg_rv hx hb hr hlk hP hD hS dX2_tireLeaners_60
  · intro k2 hk v2 hv w hw ih H locs ls hP hD hS hl
    have hw : w = b_X2_tireLeaners_2 t_players t_looks_v t_kinds_v k2 v2 := by rw [hw, hv]; rfl
    unfold b_X2_tireLeaners_2 at hw
    have hP : va_P (dC, dI) vwCl [(m_h, .inr (2, [.int v2, .int m_paid, .int m_next, .int m_taken, .int m_hat, .int m_time, .ref m_wind])), (t_h, .inr (3, [.int t_players, .int t_bars, .ref t_prices, .ref t_winds, .ref t_kinds, .ref t_looks, .ref t_noises, .ref t_repeats])), (t_looks, .inl (cI, 6, .inl t_looks_v)), (t_kinds, .inl (cI, 6, .inl t_kinds_v))] H := hP
    have hD : va_D A [(m_h, .inr (2, [.int v2, .int m_paid, .int m_next, .int m_taken, .int m_hat, .int m_time, .ref m_wind])), (t_h, .inr (3, [.int t_players, .int t_bars, .ref t_prices, .ref t_winds, .ref t_kinds, .ref t_looks, .ref t_noises, .ref t_repeats])), (t_looks, .inl (cI, 6, .inl t_looks_v)), (t_kinds, .inl (cI, 6, .inl t_kinds_v))] := hD
    have hl : lv_has ls 4 [(0, .ref m_h), (1, .ref t_h), (2, .int (nI k2))] := hl
    refine lv_iload_n hx hb dX2_tireLeaners_2 rfl (lv_at hl 2 rfl) ?_
    refine lv_aload_n hx hb dX2_tireLeaners_3 rfl (lv_at hl 1 rfl) ?_
    refine va_get (D := (dC, dI)) (ci := 3) (v := .int t_players) (C := RX3) (T := TX3) (N := 8) hx hb hts hinX3 hown hK hP 1 rfl rfl 0 (by decide) w1 (fun _ h9 => h9) rfl dX2_tireLeaners_4 ?_
    refine lv_icmp_ge (tgt := 60) hx hb dX2_tireLeaners_7 (by decide) (fun c_7 => absurd c_7 (hg_lo1 hk)) (fun c_7 => ?_)
    refine lv_aload_n hx hb dX2_tireLeaners_10 rfl (lv_at hl 1 rfl) ?_
    refine va_get (D := (dC, dI)) (ci := 3) (v := .ref t_looks) (C := RX3) (T := TX3) (N := 8) hx hb hts hinX3 hown hK hP 1 rfl rfl 5 (by decide) w2 (fun _ h9 => h9) rfl dX2_tireLeaners_11 ?_
    refine lv_iload_n hx hb dX2_tireLeaners_14 rfl (lv_at hl 2 rfl) ?_
    obtain ⟨r1, er1, hw⟩ := lxb_o hw
    refine hg_ci (va_runSN (As := [.ref t_looks, .int (nI k2)]) (rest := []) ⟨hx, hb, hml, hown, hts⟩ (c_X4_at l dC dI cI cZ cM _ t_looks (nI k2) 6 t_looks_v (by decide) r1 er1) ⟨va_cnB 2 hts gX2_tireLeaners_X4_at_n47 rfl rfl rfl hN.2.2.1 w5 (by decide +kernel) ⟨Nat.le_of_ble_eq_true rfl, Nat.le_of_ble_eq_true rfl⟩, w4, trivial⟩ (hgPreS hP hD hK hN [2] rfl rfl) rfl rfl hl.1 rfl (lv_room (Nat.le_of_ble_eq_true rfl)) dX2_tireLeaners_15 ⟨Nat.zero_le _, Nat.zero_le _⟩) hP hD hS hA (wr := [(m_h, .inr (2, [.int v2, .int m_paid, .int m_next, .int m_taken, .int m_hat, .int m_time, .ref m_wind])), (t_h, .inr (3, [.int t_players, .int t_bars, .ref t_prices, .ref t_winds, .ref t_kinds, .ref t_looks, .ref t_noises, .ref t_repeats])), (t_kinds, .inl (cI, 6, .inl t_kinds_v))]) (wf := [(m_h, .inr (2, [.int v2, .int m_paid, .int m_next, .int m_taken, .int m_hat, .int m_time, .ref m_wind])), (t_h, .inr (3, [.int t_players, .int t_bars, .ref t_prices, .ref t_winds, .ref t_kinds, .ref t_looks, .ref t_noises, .ref t_repeats])), (t_looks, .inl (cI, 6, .inl t_looks_v)), (t_kinds, .inl (cI, 6, .inl t_kinds_v))]) [2] [0, 1, 3] [0, 1, 3, 2] rfl rfl rfl (by decide) rfl rfl (fun H locs hP hD hS => ?_)
    refine lv_istore_n (lv' := [(3, .int r1), (0, .ref m_h), (1, .ref t_h), (2, .int (nI k2))]) hx hb dX2_tireLeaners_18 rfl hl (by decide) rfl (fun ls hl => ?_)
    refine lv_aload_n hx hb dX2_tireLeaners_19 rfl (lv_at hl 2 rfl) ?_
    refine va_get (D := (dC, dI)) (ci := 3) (v := .ref t_kinds) (C := RX3) (T := TX3) (N := 8) hx hb hts hinX3 hown hK hP 1 rfl rfl 4 (by decide) w3 (fun _ h9 => h9) rfl dX2_tireLeaners_20 ?_
    refine lv_iload_n hx hb dX2_tireLeaners_23 rfl (lv_at hl 3 rfl) ?_
    obtain ⟨r2, er2, hw⟩ := lxb_o hw
    refine hg_ci (va_runSN (As := [.ref t_kinds, .int (nI k2)]) (rest := []) ⟨hx, hb, hml, hown, hts⟩ (c_X4_at l dC dI cI cZ cM _ t_kinds (nI k2) 6 t_kinds_v (by decide) r2 er2) ⟨va_cnB 2 hts gX2_tireLeaners_X4_at_n47 rfl rfl rfl hN.2.2.1 w5 (by decide +kernel) ⟨Nat.le_of_ble_eq_true rfl, Nat.le_of_ble_eq_true rfl⟩, w4, trivial⟩ (hgPreS hP hD hK hN [3] rfl rfl) rfl rfl hl.1 rfl (lv_room (Nat.le_of_ble_eq_true rfl)) dX2_tireLeaners_24 ⟨Nat.zero_le _, Nat.zero_le _⟩) hP hD hS hA (wr := [(m_h, .inr (2, [.int v2, .int m_paid, .int m_next, .int m_taken, .int m_hat, .int m_time, .ref m_wind])), (t_h, .inr (3, [.int t_players, .int t_bars, .ref t_prices, .ref t_winds, .ref t_kinds, .ref t_looks, .ref t_noises, .ref t_repeats])), (t_looks, .inl (cI, 6, .inl t_looks_v))]) (wf := [(m_h, .inr (2, [.int v2, .int m_paid, .int m_next, .int m_taken, .int m_hat, .int m_time, .ref m_wind])), (t_h, .inr (3, [.int t_players, .int t_bars, .ref t_prices, .ref t_winds, .ref t_kinds, .ref t_looks, .ref t_noises, .ref t_repeats])), (t_looks, .inl (cI, 6, .inl t_looks_v)), (t_kinds, .inl (cI, 6, .inl t_kinds_v))]) [3] [0, 1, 2] [0, 1, 2, 3] rfl rfl rfl (by decide) rfl rfl (fun H locs hP hD hS => ?_)
    refine lv_iconst (v := 1) hx hb dX2_tireLeaners_27 (by decide) ?_
    refine lv_icmp_ne (tgt := 54) hx hb dX2_tireLeaners_28 (by decide) (fun c_28 => ?_) (fun c_28 => ?_)
    · have hw := hw.trans (if_neg c_28)
      refine lv_iinc (v := nI (k2 + 1)) (lv' := [(2, .int (nI (k2 + 1))), (3, .int r1), (0, .ref m_h), (1, .ref t_h)]) hx hb dX2_tireLeaners_54 hl (k := 3) rfl (nI_1 k2) (by decide) rfl (fun ls hl => ?_)
      refine lv_goto (tgt := 2) hx hb dX2_tireLeaners_57 (by decide) ?_
      subst hw
      exact ih _ _ _ hP hD hS (lv_sub hl [2, 3, 0] rfl)
    · have hw := hw.trans (if_pos c_28)
      refine lv_aload_n hx hb dX2_tireLeaners_31 rfl (lv_at hl 2 rfl) ?_
      refine lv_iload_n hx hb dX2_tireLeaners_32 rfl (lv_at hl 0 rfl) ?_
      obtain ⟨r3, er3, hw⟩ := lxb_o hw
      refine hg_ci (va_runV (As := [.int r1]) (rest := []) ⟨hx, hb, hml, hown, hts⟩ (c_X3_hasPlayer l dC dI cI cZ cM _ t_h r1 t_players t_bars t_prices t_winds t_kinds t_looks t_noises t_repeats r3 er3) (cwV 1 hts gX2_tireLeaners_X3_hasPlayer rfl rfl rfl (by decide +kernel) ⟨Nat.le_of_ble_eq_true rfl, Nat.le_of_ble_eq_true rfl⟩) (hgPreV (C := RX3) (T := TX3) (N := 8) (ci := 3) (q0 := 1) hP hD hK hN [1] rfl rfl rfl rfl) rfl rfl hl.1 rfl (lv_room (Nat.le_of_ble_eq_true rfl)) dX2_tireLeaners_33 ⟨Nat.zero_le _, Nat.zero_le _⟩) hP hD hS hA (wr := [(m_h, .inr (2, [.int v2, .int m_paid, .int m_next, .int m_taken, .int m_hat, .int m_time, .ref m_wind])), (t_looks, .inl (cI, 6, .inl t_looks_v)), (t_kinds, .inl (cI, 6, .inl t_kinds_v))]) (wf := [(m_h, .inr (2, [.int v2, .int m_paid, .int m_next, .int m_taken, .int m_hat, .int m_time, .ref m_wind])), (t_h, .inr (3, [.int t_players, .int t_bars, .ref t_prices, .ref t_winds, .ref t_kinds, .ref t_looks, .ref t_noises, .ref t_repeats])), (t_looks, .inl (cI, 6, .inl t_looks_v)), (t_kinds, .inl (cI, 6, .inl t_kinds_v))]) [1] [0, 2, 3] [0, 3, 1, 2] rfl rfl rfl (by decide) rfl rfl (fun H locs hP hD hS => ?_)
      refine lv_if_eq (tgt := 54) hx hb dX2_tireLeaners_36 (by decide) (fun c_36 => ?_) (fun c_36 => ?_)
      · have hw := hw.trans (if_pos c_36)
        refine lv_iinc (v := nI (k2 + 1)) (lv' := [(2, .int (nI (k2 + 1))), (3, .int r1), (0, .ref m_h), (1, .ref t_h)]) hx hb dX2_tireLeaners_54 hl (k := 3) rfl (nI_1 k2) (by decide) rfl (fun ls hl => ?_)
        refine lv_goto (tgt := 2) hx hb dX2_tireLeaners_57 (by decide) ?_
        subst hw
        exact ih _ _ _ hP hD hS (lv_sub hl [2, 3, 0] rfl)
      · have hw := hw.trans (if_neg c_36)
        refine lv_aload_n hx hb dX2_tireLeaners_39 rfl (lv_at hl 1 rfl) ?_
        refine lv_iload_n hx hb dX2_tireLeaners_40 rfl (lv_at hl 0 rfl) ?_
        obtain ⟨r4, er4, hw⟩ := lxb_o hw
        refine hg_ci (va_runV (As := [.int r1]) (rest := []) ⟨hx, hb, hml, hown, hts⟩ (c_X2_isPlaying l dC dI cI cZ cM _ m_h r1 v2 m_paid m_next m_taken m_hat m_time m_wind r4 er4) (cwV 1 hts gX2_tireLeaners_X2_isPlaying rfl rfl rfl (by decide +kernel) ⟨Nat.le_of_ble_eq_true rfl, Nat.le_of_ble_eq_true rfl⟩) (hgPreV (C := RX2) (T := TX2) (N := 7) (ci := 2) (q0 := 0) hP hD hK hN [0] rfl rfl rfl rfl) rfl rfl hl.1 rfl (lv_room (Nat.le_of_ble_eq_true rfl)) dX2_tireLeaners_41 ⟨Nat.zero_le _, Nat.zero_le _⟩) hP hD hS hA (wr := [(t_h, .inr (3, [.int t_players, .int t_bars, .ref t_prices, .ref t_winds, .ref t_kinds, .ref t_looks, .ref t_noises, .ref t_repeats])), (t_looks, .inl (cI, 6, .inl t_looks_v)), (t_kinds, .inl (cI, 6, .inl t_kinds_v))]) (wf := [(m_h, .inr (2, [.int v2, .int m_paid, .int m_next, .int m_taken, .int m_hat, .int m_time, .ref m_wind])), (t_h, .inr (3, [.int t_players, .int t_bars, .ref t_prices, .ref t_winds, .ref t_kinds, .ref t_looks, .ref t_noises, .ref t_repeats])), (t_looks, .inl (cI, 6, .inl t_looks_v)), (t_kinds, .inl (cI, 6, .inl t_kinds_v))]) [0] [1, 2, 3] [3, 0, 1, 2] rfl rfl rfl (by decide) rfl rfl (fun H locs hP hD hS => ?_)
        refine lv_if_ne (tgt := 54) hx hb dX2_tireLeaners_44 (by decide) (fun c_44 => ?_) (fun c_44 => ?_)
        · have hw := hw.trans (if_neg c_44)
          refine lv_iinc (v := nI (k2 + 1)) (lv' := [(2, .int (nI (k2 + 1))), (3, .int r1), (0, .ref m_h), (1, .ref t_h)]) hx hb dX2_tireLeaners_54 hl (k := 3) rfl (nI_1 k2) (by decide) rfl (fun ls hl => ?_)
          refine lv_goto (tgt := 2) hx hb dX2_tireLeaners_57 (by decide) ?_
          subst hw
          exact ih _ _ _ hP hD hS (lv_sub hl [2, 3, 0] rfl)
        · have hw := hw.trans (if_pos c_44)
          refine lv_aload_n hx hb dX2_tireLeaners_47 rfl (lv_at hl 1 rfl) ?_
          refine lv_iconst (v := 1) hx hb dX2_tireLeaners_48 (by decide) ?_
          refine lv_iload_n hx hb dX2_tireLeaners_49 rfl (lv_at hl 3 rfl) ?_
          refine lv_ishl hx hb dX2_tireLeaners_50 ?_
          obtain ⟨r5, er5, hw⟩ := lxb_o hw
          refine hg_cv (va_runV (As := [.int (1 <<< (nI k2 &&& 31))]) (rest := []) ⟨hx, hb, hml, hown, hts⟩ (c_X2_tire l dC dI cI cZ cM _ m_h (1 <<< (nI k2 &&& 31)) v2 m_paid m_next m_taken m_hat m_time m_wind r5 er5) (cwV 1 hts gX2_tireLeaners_X2_tire rfl rfl rfl (by decide +kernel) ⟨Nat.le_of_ble_eq_true rfl, Nat.le_of_ble_eq_true rfl⟩) (hgPreV (C := RX2) (T := TX2) (N := 7) (ci := 2) (q0 := 0) hP hD hK hN [0] rfl rfl rfl rfl) rfl rfl hl.1 rfl (lv_room (Nat.le_of_ble_eq_true rfl)) dX2_tireLeaners_51 ⟨Nat.zero_le _, Nat.zero_le _⟩) hP hD hS hA (wr := [(t_h, .inr (3, [.int t_players, .int t_bars, .ref t_prices, .ref t_winds, .ref t_kinds, .ref t_looks, .ref t_noises, .ref t_repeats])), (t_looks, .inl (cI, 6, .inl t_looks_v)), (t_kinds, .inl (cI, 6, .inl t_kinds_v))]) (wf := [(m_h, .inr (2, [.int r5, .int m_paid, .int m_next, .int m_taken, .int m_hat, .int m_time, .ref m_wind])), (t_h, .inr (3, [.int t_players, .int t_bars, .ref t_prices, .ref t_winds, .ref t_kinds, .ref t_looks, .ref t_noises, .ref t_repeats])), (t_looks, .inl (cI, 6, .inl t_looks_v)), (t_kinds, .inl (cI, 6, .inl t_kinds_v))]) [0] [1, 2, 3] [3, 0, 1, 2] rfl rfl rfl (by decide) rfl rfl (fun H locs hP hD hS => ?_)
          refine lv_iinc (v := nI (k2 + 1)) (lv' := [(2, .int (nI (k2 + 1))), (3, .int r1), (0, .ref m_h), (1, .ref t_h)]) hx hb dX2_tireLeaners_54 hl (k := 3) rfl (nI_1 k2) (by decide) rfl (fun ls hl => ?_)
          refine lv_goto (tgt := 2) hx hb dX2_tireLeaners_57 (by decide) ?_
          subst hw
          exact ih _ _ _ hP hD hS (lv_sub hl [2, 3, 0] rfl)

set_option maxHeartbeats 4000000 in
set_option maxRecDepth 100000 in
theorem c_X2_tireLonelyBasses (l : Launch) (dC : Nat → ClassId) (dI : Nat → Nat → Nat) (cI cZ cM : ClassId) (sz : Nat) (m_h : Nat) (t_h : Nat) (m_playing : Int32) (m_paid : Int32) (m_next : Int32) (m_taken : Int32) (m_hat : Int32) (m_time : Int32) (m_wind : Nat) (t_players : Int32) (t_bars : Int32) (t_prices : Nat) (t_winds : Nat) (t_kinds : Nat) (t_looks : Nat) (t_noises : Nat) (t_repeats : Nat) (t_kinds_v : Nat → Int32) (u : Int32) (hu : u = f_X2_tireLonelyBasses m_playing t_players t_kinds_v) : Met l yX2_tireLonelyBasses wsX2_tireLonelyBasses { frames := 1, cells := 0, slots := 0, locals := 21 } (hgPc [.ref m_h, .ref t_h] (dC, dI) cI cZ cM [(m_h, .inr (2, [.int m_playing, .int m_paid, .int m_next, .int m_taken, .int m_hat, .int m_time, .ref m_wind])), (t_h, .inr (3, [.int t_players, .int t_bars, .ref t_prices, .ref t_winds, .ref t_kinds, .ref t_looks, .ref t_noises, .ref t_repeats])), (t_kinds, .inl (cI, 6, .inl t_kinds_v))] sz) (hgQv (dC, dI) [(m_h, .inr (2, [.int u, .int m_paid, .int m_next, .int m_taken, .int m_hat, .int m_time, .ref m_wind])), (t_h, .inr (3, [.int t_players, .int t_bars, .ref t_prices, .ref t_winds, .ref t_kinds, .ref t_looks, .ref t_noises, .ref t_repeats])), (t_kinds, .inl (cI, 6, .inl t_kinds_v))] (va_A [(m_h, .inr (2, [.int m_playing, .int m_paid, .int m_next, .int m_taken, .int m_hat, .int m_time, .ref m_wind])), (t_h, .inr (3, [.int t_players, .int t_bars, .ref t_prices, .ref t_winds, .ref t_kinds, .ref t_looks, .ref t_noises, .ref t_repeats])), (t_kinds, .inl (cI, 6, .inl t_kinds_v))] sz)) 0 0 (va_A [(m_h, .inr (2, [.int m_playing, .int m_paid, .int m_next, .int m_taken, .int m_hat, .int m_time, .ref m_wind])), (t_h, .inr (3, [.int t_players, .int t_bars, .ref t_prices, .ref t_winds, .ref t_kinds, .ref t_looks, .ref t_noises, .ref t_repeats])), (t_kinds, .inl (cI, 6, .inl t_kinds_v))] sz) := by
  refine hg_ofW (cc := cX2_tireLonelyBasses) (maxL := 3) (ret := none) (own := RX2) (fun A => hgQv (dC, dI) [(m_h, .inr (2, [.int u, .int m_paid, .int m_next, .int m_taken, .int m_hat, .int m_time, .ref m_wind])), (t_h, .inr (3, [.int t_players, .int t_bars, .ref t_prices, .ref t_winds, .ref t_kinds, .ref t_looks, .ref t_noises, .ref t_repeats])), (t_kinds, .inl (cI, 6, .inl t_kinds_v))] A) rfl (by decide) rfl (Nat.le_of_ble_eq_true rfl) ?_
  intro p e s m below meth c ls A hsz hx hb hr hml hown hts hlk hnm hK hN hA hP hD hS hl
  subst hsz
  have w1 := hts (.fieldLink RX2 93 "HatGoesRound$Told" "players" "I") (List.mem_of_getElem? (i := 1) rfl)
  have hinX3 : ∀ w ∈ u_ws RX3 TX3 8, w ∈ wsX2_tireLonelyBasses := fun _ h => List.mem_cons_of_mem _ (List.mem_append_left _ (List.mem_append_right _ h))
  have w2 := hts (.fieldLink RX2 96 "HatGoesRound$Told" "kinds" "[I") (List.mem_of_getElem? (i := 2) rfl)
  have w10 := hts (.initialized RX4) (List.mem_of_getElem? (i := 10) rfl)
  have w9 := hts (.static yX4_at) (List.mem_of_getElem? (i := 9) rfl)
  have w3 := hts (.fieldLink RX2 21 "HatGoesRound$Moment" "playing" "I") (List.mem_of_getElem? (i := 3) rfl)
  have hinX2 : ∀ w ∈ u_ws RX2 TX2 7, w ∈ wsX2_tireLonelyBasses := fun _ h => List.mem_cons_of_mem _ (List.mem_append_right _ h)
  have hl : lv_has ls 3 [(0, .ref m_h), (1, .ref t_h)] := hl
  unfold f_X2_tireLonelyBasses at hu
  refine lv_iconst (v := 0) hx hb dX2_tireLonelyBasses_0 (by decide) ?_
  refine lv_istore_n (lv' := [(2, .int 0), (0, .ref m_h), (1, .ref t_h)]) hx hb dX2_tireLonelyBasses_1 rfl hl (by decide) rfl (fun ls hl => ?_)
  refine hg_loopS (T := Unit) (N := (itn 0 t_players)) (fun v2 => [(m_h, .inr (2, [.int m_playing, .int m_paid, .int m_next, .int m_taken, .int m_hat, .int m_time, .ref m_wind])), (t_h, .inr (3, [.int t_players, .int t_bars, .ref t_prices, .ref t_winds, .ref t_kinds, .ref t_looks, .ref t_noises, .ref t_repeats])), (t_kinds, .inl (cI, 6, .inl t_kinds_v))]) (fun k2 v2 => [(0, .ref m_h), (1, .ref t_h), (2, .int (nI k2))]) (fun n2 k2 v2 => l_X2_tireLonelyBasses_2 m_playing t_kinds_v n2 k2 v2) () hu ?_ ?_ hP hD hS (lv_sub hl [1, 2, 0] rfl)
  · intro v2 hu H locs ls hP hD hS hl
    rw [l_X2_tireLonelyBasses_2] at hu
    have hP : va_P (dC, dI) vwCl [(m_h, .inr (2, [.int m_playing, .int m_paid, .int m_next, .int m_taken, .int m_hat, .int m_time, .ref m_wind])), (t_h, .inr (3, [.int t_players, .int t_bars, .ref t_prices, .ref t_winds, .ref t_kinds, .ref t_looks, .ref t_noises, .ref t_repeats])), (t_kinds, .inl (cI, 6, .inl t_kinds_v))] H := hP
    have hD : va_D A [(m_h, .inr (2, [.int m_playing, .int m_paid, .int m_next, .int m_taken, .int m_hat, .int m_time, .ref m_wind])), (t_h, .inr (3, [.int t_players, .int t_bars, .ref t_prices, .ref t_winds, .ref t_kinds, .ref t_looks, .ref t_noises, .ref t_repeats])), (t_kinds, .inl (cI, 6, .inl t_kinds_v))] := hD
    have hl : lv_has ls 3 [(0, .ref m_h), (1, .ref t_h), (2, .int (nI (itn 0 t_players)))] := hl
    refine lv_iload_n hx hb dX2_tireLonelyBasses_2 rfl (lv_at hl 2 rfl) ?_
    refine lv_aload_n hx hb dX2_tireLonelyBasses_3 rfl (lv_at hl 1 rfl) ?_
    refine va_get (D := (dC, dI)) (ci := 3) (v := .int t_players) (C := RX3) (T := TX3) (N := 8) hx hb hts hinX3 hown hK hP 1 rfl rfl 0 (by decide) w1 (fun _ h9 => h9) rfl dX2_tireLonelyBasses_4 ?_
    refine lv_icmp_ge (tgt := 37) hx hb dX2_tireLonelyBasses_7 (by decide) (fun c_7 => ?_) (fun c_7 => absurd hg_lo0 c_7)
    refine lv_aload_n hx hb dX2_tireLonelyBasses_37 rfl (lv_at hl 0 rfl) ?_
    refine lv_iconst (v := 0) hx hb dX2_tireLonelyBasses_38 (by decide) ?_
    refine va_put (D := (dC, dI)) (ci := 2) (v := .int 0) (ty := .int) (C := RX2) (T := TX2) (N := 7) hx hb hts hinX2 tyX2 tyX2_ok nmX2 hown hK hP hD hS 0 rfl rfl 0 (by decide) w3 (fun _ h9 => h9) rfl (by decide +kernel) rfl rfl (Nat.le_of_ble_eq_true rfl) dX2_tireLonelyBasses_39 (fun H locs hP hD hS => ?_)
    have hP : va_P (dC, dI) vwCl [(m_h, .inr (2, [.int 0, .int m_paid, .int m_next, .int m_taken, .int m_hat, .int m_time, .ref m_wind])), (t_h, .inr (3, [.int t_players, .int t_bars, .ref t_prices, .ref t_winds, .ref t_kinds, .ref t_looks, .ref t_noises, .ref t_repeats])), (t_kinds, .inl (cI, 6, .inl t_kinds_v))] H := hP
    have hD : va_D A [(m_h, .inr (2, [.int 0, .int m_paid, .int m_next, .int m_taken, .int m_hat, .int m_time, .ref m_wind])), (t_h, .inr (3, [.int t_players, .int t_bars, .ref t_prices, .ref t_winds, .ref t_kinds, .ref t_looks, .ref t_noises, .ref t_repeats])), (t_kinds, .inl (cI, 6, .inl t_kinds_v))] := hD
    subst hu
    exact hg_rv hx hb hr hlk hP hD hS dX2_tireLonelyBasses_42
  · intro n2 k2 hk0 v2 hu ih H locs ls hP hD hS hl
    have hk : k2 < (itn 0 t_players) := by omega
    rw [l_X2_tireLonelyBasses_2] at hu
    have hP : va_P (dC, dI) vwCl [(m_h, .inr (2, [.int m_playing, .int m_paid, .int m_next, .int m_taken, .int m_hat, .int m_time, .ref m_wind])), (t_h, .inr (3, [.int t_players, .int t_bars, .ref t_prices, .ref t_winds, .ref t_kinds, .ref t_looks, .ref t_noises, .ref t_repeats])), (t_kinds, .inl (cI, 6, .inl t_kinds_v))] H := hP
    have hD : va_D A [(m_h, .inr (2, [.int m_playing, .int m_paid, .int m_next, .int m_taken, .int m_hat, .int m_time, .ref m_wind])), (t_h, .inr (3, [.int t_players, .int t_bars, .ref t_prices, .ref t_winds, .ref t_kinds, .ref t_looks, .ref t_noises, .ref t_repeats])), (t_kinds, .inl (cI, 6, .inl t_kinds_v))] := hD
    have hl : lv_has ls 3 [(0, .ref m_h), (1, .ref t_h), (2, .int (nI k2))] := hl
    refine lv_iload_n hx hb dX2_tireLonelyBasses_2 rfl (lv_at hl 2 rfl) ?_
    refine lv_aload_n hx hb dX2_tireLonelyBasses_3 rfl (lv_at hl 1 rfl) ?_
    refine va_get (D := (dC, dI)) (ci := 3) (v := .int t_players) (C := RX3) (T := TX3) (N := 8) hx hb hts hinX3 hown hK hP 1 rfl rfl 0 (by decide) w1 (fun _ h9 => h9) rfl dX2_tireLonelyBasses_4 ?_
    refine lv_icmp_ge (tgt := 37) hx hb dX2_tireLonelyBasses_7 (by decide) (fun c_7 => absurd c_7 (hg_lo1 hk)) (fun c_7 => ?_)
    refine lv_aload_n hx hb dX2_tireLonelyBasses_10 rfl (lv_at hl 0 rfl) ?_
    refine lv_iload_n hx hb dX2_tireLonelyBasses_11 rfl (lv_at hl 2 rfl) ?_
    obtain ⟨r1, er1, hu⟩ := lxb_o hu
    refine hg_ci (va_runV (As := [.int (nI k2)]) (rest := []) ⟨hx, hb, hml, hown, hts⟩ (c_X2_isPlaying l dC dI cI cZ cM _ m_h (nI k2) m_playing m_paid m_next m_taken m_hat m_time m_wind r1 er1) (cwV 1 hts gX2_tireLonelyBasses_X2_isPlaying rfl rfl rfl (by decide +kernel) ⟨Nat.le_of_ble_eq_true rfl, Nat.le_of_ble_eq_true rfl⟩) (hgPreV (C := RX2) (T := TX2) (N := 7) (ci := 2) (q0 := 0) hP hD hK hN [0] rfl rfl rfl rfl) rfl rfl hl.1 rfl (lv_room (Nat.le_of_ble_eq_true rfl)) dX2_tireLonelyBasses_12 ⟨Nat.zero_le _, Nat.zero_le _⟩) hP hD hS hA (wr := [(t_h, .inr (3, [.int t_players, .int t_bars, .ref t_prices, .ref t_winds, .ref t_kinds, .ref t_looks, .ref t_noises, .ref t_repeats])), (t_kinds, .inl (cI, 6, .inl t_kinds_v))]) (wf := [(m_h, .inr (2, [.int m_playing, .int m_paid, .int m_next, .int m_taken, .int m_hat, .int m_time, .ref m_wind])), (t_h, .inr (3, [.int t_players, .int t_bars, .ref t_prices, .ref t_winds, .ref t_kinds, .ref t_looks, .ref t_noises, .ref t_repeats])), (t_kinds, .inl (cI, 6, .inl t_kinds_v))]) [0] [1, 2] [2, 0, 1] rfl rfl rfl (by decide) rfl rfl (fun H locs hP hD hS => ?_)
    refine lv_if_eq (tgt := 31) hx hb dX2_tireLonelyBasses_15 (by decide) (fun c_15 => ?_) (fun c_15 => ?_)
    · have hu := hu.trans (if_pos c_15)
      refine lv_iinc (v := nI (k2 + 1)) (lv' := [(2, .int (nI (k2 + 1))), (0, .ref m_h), (1, .ref t_h)]) hx hb dX2_tireLonelyBasses_31 hl (k := 2) rfl (nI_1 k2) (by decide) rfl (fun ls hl => ?_)
      refine lv_goto (tgt := 2) hx hb dX2_tireLonelyBasses_34 (by decide) ?_
      exact ih _ hu _ _ _ hP hD hS (lv_sub hl [1, 2, 0] rfl)
    · have hu := hu.trans (if_neg c_15)
      refine lv_aload_n hx hb dX2_tireLonelyBasses_18 rfl (lv_at hl 1 rfl) ?_
      refine va_get (D := (dC, dI)) (ci := 3) (v := .ref t_kinds) (C := RX3) (T := TX3) (N := 8) hx hb hts hinX3 hown hK hP 1 rfl rfl 4 (by decide) w2 (fun _ h9 => h9) rfl dX2_tireLonelyBasses_19 ?_
      refine lv_iload_n hx hb dX2_tireLonelyBasses_22 rfl (lv_at hl 2 rfl) ?_
      obtain ⟨r2, er2, hu⟩ := lxb_o hu
      refine hg_ci (va_runSN (As := [.ref t_kinds, .int (nI k2)]) (rest := []) ⟨hx, hb, hml, hown, hts⟩ (c_X4_at l dC dI cI cZ cM _ t_kinds (nI k2) 6 t_kinds_v (by decide) r2 er2) ⟨va_cnB 2 hts gX2_tireLonelyBasses_X4_at_n47 rfl rfl rfl hN.2.2.1 w10 (by decide +kernel) ⟨Nat.le_of_ble_eq_true rfl, Nat.le_of_ble_eq_true rfl⟩, w9, trivial⟩ (hgPreS hP hD hK hN [2] rfl rfl) rfl rfl hl.1 rfl (lv_room (Nat.le_of_ble_eq_true rfl)) dX2_tireLonelyBasses_23 ⟨Nat.zero_le _, Nat.zero_le _⟩) hP hD hS hA (wr := [(m_h, .inr (2, [.int m_playing, .int m_paid, .int m_next, .int m_taken, .int m_hat, .int m_time, .ref m_wind])), (t_h, .inr (3, [.int t_players, .int t_bars, .ref t_prices, .ref t_winds, .ref t_kinds, .ref t_looks, .ref t_noises, .ref t_repeats]))]) (wf := [(m_h, .inr (2, [.int m_playing, .int m_paid, .int m_next, .int m_taken, .int m_hat, .int m_time, .ref m_wind])), (t_h, .inr (3, [.int t_players, .int t_bars, .ref t_prices, .ref t_winds, .ref t_kinds, .ref t_looks, .ref t_noises, .ref t_repeats])), (t_kinds, .inl (cI, 6, .inl t_kinds_v))]) [2] [0, 1] [0, 1, 2] rfl rfl rfl (by decide) rfl rfl (fun H locs hP hD hS => ?_)
      refine lv_iconst (v := 2) hx hb dX2_tireLonelyBasses_26 (by decide) ?_
      refine lv_icmp_eq (tgt := 31) hx hb dX2_tireLonelyBasses_27 (by decide) (fun c_27 => ?_) (fun c_27 => ?_)
      · have hu := hu.trans (if_pos c_27)
        refine lv_iinc (v := nI (k2 + 1)) (lv' := [(2, .int (nI (k2 + 1))), (0, .ref m_h), (1, .ref t_h)]) hx hb dX2_tireLonelyBasses_31 hl (k := 2) rfl (nI_1 k2) (by decide) rfl (fun ls hl => ?_)
        refine lv_goto (tgt := 2) hx hb dX2_tireLonelyBasses_34 (by decide) ?_
        exact ih _ hu _ _ _ hP hD hS (lv_sub hl [1, 2, 0] rfl)
      · have hu := hu.trans (if_neg c_27)
        subst hu
        exact hg_rv hx hb hr hlk hP hD hS dX2_tireLonelyBasses_30

set_option maxHeartbeats 4000000 in
set_option maxRecDepth 100000 in
theorem c_X2_wakeDrums (l : Launch) (dC : Nat → ClassId) (dI : Nat → Nat → Nat) (cI cZ cM : ClassId) (sz : Nat) (m_h : Nat) (t_h : Nat) (m_playing : Int32) (m_paid : Int32) (m_next : Int32) (m_taken : Int32) (m_hat : Int32) (m_time : Int32) (m_wind : Nat) (t_players : Int32) (t_bars : Int32) (t_prices : Nat) (t_winds : Nat) (t_kinds : Nat) (t_looks : Nat) (t_noises : Nat) (t_repeats : Nat) (t_looks_v : Nat → Int32) (t_kinds_v : Nat → Int32) (m_wind_v : Nat → Int32) (u : Int32 × (Nat → Int32)) (hu : u = f_X2_wakeDrums m_playing m_paid t_players t_looks_v t_kinds_v m_wind_v) : Met l yX2_wakeDrums wsX2_wakeDrums { frames := 2, cells := 0, slots := 0, locals := 42 } (hgPc [.ref m_h, .ref t_h] (dC, dI) cI cZ cM [(m_h, .inr (2, [.int m_playing, .int m_paid, .int m_next, .int m_taken, .int m_hat, .int m_time, .ref m_wind])), (t_h, .inr (3, [.int t_players, .int t_bars, .ref t_prices, .ref t_winds, .ref t_kinds, .ref t_looks, .ref t_noises, .ref t_repeats])), (t_looks, .inl (cI, 6, .inl t_looks_v)), (t_kinds, .inl (cI, 6, .inl t_kinds_v)), (m_wind, .inl (cI, 6, .inl m_wind_v))] sz) (hgQv (dC, dI) [(m_h, .inr (2, [.int u.1, .int m_paid, .int m_next, .int m_taken, .int m_hat, .int m_time, .ref m_wind])), (t_h, .inr (3, [.int t_players, .int t_bars, .ref t_prices, .ref t_winds, .ref t_kinds, .ref t_looks, .ref t_noises, .ref t_repeats])), (t_looks, .inl (cI, 6, .inl t_looks_v)), (t_kinds, .inl (cI, 6, .inl t_kinds_v)), (m_wind, .inl (cI, 6, .inl u.2))] (va_A [(m_h, .inr (2, [.int m_playing, .int m_paid, .int m_next, .int m_taken, .int m_hat, .int m_time, .ref m_wind])), (t_h, .inr (3, [.int t_players, .int t_bars, .ref t_prices, .ref t_winds, .ref t_kinds, .ref t_looks, .ref t_noises, .ref t_repeats])), (t_looks, .inl (cI, 6, .inl t_looks_v)), (t_kinds, .inl (cI, 6, .inl t_kinds_v)), (m_wind, .inl (cI, 6, .inl m_wind_v))] sz)) 0 0 (va_A [(m_h, .inr (2, [.int m_playing, .int m_paid, .int m_next, .int m_taken, .int m_hat, .int m_time, .ref m_wind])), (t_h, .inr (3, [.int t_players, .int t_bars, .ref t_prices, .ref t_winds, .ref t_kinds, .ref t_looks, .ref t_noises, .ref t_repeats])), (t_looks, .inl (cI, 6, .inl t_looks_v)), (t_kinds, .inl (cI, 6, .inl t_kinds_v)), (m_wind, .inl (cI, 6, .inl m_wind_v))] sz) := by
  refine hg_ofW (cc := cX2_wakeDrums) (maxL := 4) (ret := none) (own := RX2) (fun A => hgQv (dC, dI) [(m_h, .inr (2, [.int u.1, .int m_paid, .int m_next, .int m_taken, .int m_hat, .int m_time, .ref m_wind])), (t_h, .inr (3, [.int t_players, .int t_bars, .ref t_prices, .ref t_winds, .ref t_kinds, .ref t_looks, .ref t_noises, .ref t_repeats])), (t_looks, .inl (cI, 6, .inl t_looks_v)), (t_kinds, .inl (cI, 6, .inl t_kinds_v)), (m_wind, .inl (cI, 6, .inl u.2))] A) rfl (by decide) rfl (Nat.le_of_ble_eq_true rfl) ?_
  intro p e s m below meth c ls A hsz hx hb hr hml hown hts hlk hnm hK hN hA hP hD hS hl
  subst hsz
  have w1 := hts (.fieldLink RX2 93 "HatGoesRound$Told" "players" "I") (List.mem_of_getElem? (i := 1) rfl)
  have hinX3 : ∀ w ∈ u_ws RX3 TX3 8, w ∈ wsX2_wakeDrums := fun _ h => List.mem_cons_of_mem _ (List.mem_append_left _ (List.mem_append_right _ h))
  have w2 := hts (.fieldLink RX2 112 "HatGoesRound$Told" "looks" "[I") (List.mem_of_getElem? (i := 2) rfl)
  have w7 := hts (.initialized RX4) (List.mem_of_getElem? (i := 7) rfl)
  have w6 := hts (.static yX4_at) (List.mem_of_getElem? (i := 6) rfl)
  have w3 := hts (.fieldLink RX2 96 "HatGoesRound$Told" "kinds" "[I") (List.mem_of_getElem? (i := 3) rfl)
  have w4 := hts (.fieldLink RX2 21 "HatGoesRound$Moment" "playing" "I") (List.mem_of_getElem? (i := 4) rfl)
  have hinX2 : ∀ w ∈ u_ws RX2 TX2 7, w ∈ wsX2_wakeDrums := fun _ h => List.mem_cons_of_mem _ (List.mem_append_right _ h)
  have w5 := hts (.fieldLink RX2 9 "HatGoesRound$Moment" "wind" "[I") (List.mem_of_getElem? (i := 5) rfl)
  have w29 := hts (.static yX4_put) (List.mem_of_getElem? (i := 29) rfl)
  have hl : lv_has ls 4 [(0, .ref m_h), (1, .ref t_h)] := hl
  unfold f_X2_wakeDrums at hu
  refine lv_iconst (v := 0) hx hb dX2_wakeDrums_0 (by decide) ?_
  refine lv_istore_n (lv' := [(2, .int 0), (0, .ref m_h), (1, .ref t_h)]) hx hb dX2_wakeDrums_1 rfl hl (by decide) rfl (fun ls hl => ?_)
  obtain ⟨r8, er8, hu⟩ := lxb_o hu
  refine hg_loopF (T := Int32 × (Nat → Int32)) (N := (itn 0 t_players)) (fun v2 => [(m_h, .inr (2, [.int v2.1, .int m_paid, .int m_next, .int m_taken, .int m_hat, .int m_time, .ref m_wind])), (t_h, .inr (3, [.int t_players, .int t_bars, .ref t_prices, .ref t_winds, .ref t_kinds, .ref t_looks, .ref t_noises, .ref t_repeats])), (t_looks, .inl (cI, 6, .inl t_looks_v)), (t_kinds, .inl (cI, 6, .inl t_kinds_v)), (m_wind, .inl (cI, 6, .inl v2.2))]) (fun k2 v2 => [(0, .ref m_h), (1, .ref t_h), (2, .int (nI k2))]) (fun k2 => l_X2_wakeDrums_2 m_paid t_players t_looks_v t_kinds_v (m_playing, m_wind_v) k2) ?_ ?_ hP hD hS (lv_sub hl [1, 2, 0] rfl)
  · intro v2 hv H locs ls hP hD hS hl
    obtain rfl : r8 = v2 := er8.trans hv.symm
    have hP : va_P (dC, dI) vwCl [(m_h, .inr (2, [.int r8.1, .int m_paid, .int m_next, .int m_taken, .int m_hat, .int m_time, .ref m_wind])), (t_h, .inr (3, [.int t_players, .int t_bars, .ref t_prices, .ref t_winds, .ref t_kinds, .ref t_looks, .ref t_noises, .ref t_repeats])), (t_looks, .inl (cI, 6, .inl t_looks_v)), (t_kinds, .inl (cI, 6, .inl t_kinds_v)), (m_wind, .inl (cI, 6, .inl r8.2))] H := hP
    have hD : va_D A [(m_h, .inr (2, [.int r8.1, .int m_paid, .int m_next, .int m_taken, .int m_hat, .int m_time, .ref m_wind])), (t_h, .inr (3, [.int t_players, .int t_bars, .ref t_prices, .ref t_winds, .ref t_kinds, .ref t_looks, .ref t_noises, .ref t_repeats])), (t_looks, .inl (cI, 6, .inl t_looks_v)), (t_kinds, .inl (cI, 6, .inl t_kinds_v)), (m_wind, .inl (cI, 6, .inl r8.2))] := hD
    have hl : lv_has ls 4 [(0, .ref m_h), (1, .ref t_h), (2, .int (nI (itn 0 t_players)))] := hl
    refine lv_iload_n hx hb dX2_wakeDrums_2 rfl (lv_at hl 2 rfl) ?_
    refine lv_aload_n hx hb dX2_wakeDrums_3 rfl (lv_at hl 1 rfl) ?_
    refine va_get (D := (dC, dI)) (ci := 3) (v := .int t_players) (C := RX3) (T := TX3) (N := 8) hx hb hts hinX3 hown hK hP 1 rfl rfl 0 (by decide) w1 (fun _ h9 => h9) rfl dX2_wakeDrums_4 ?_
    refine lv_icmp_ge (tgt := 82) hx hb dX2_wakeDrums_7 (by decide) (fun c_7 => ?_) (fun c_7 => absurd hg_lo0 c_7)
    subst hu
    exact hg_rv hx hb hr hlk hP hD hS dX2_wakeDrums_82
  · intro k2 hk v2 hv w hw ih H locs ls hP hD hS hl
    have hw : w = b_X2_wakeDrums_2 m_paid t_players t_looks_v t_kinds_v k2 v2 := by rw [hw, hv]; rfl
    unfold b_X2_wakeDrums_2 at hw
    have hP : va_P (dC, dI) vwCl [(m_h, .inr (2, [.int v2.1, .int m_paid, .int m_next, .int m_taken, .int m_hat, .int m_time, .ref m_wind])), (t_h, .inr (3, [.int t_players, .int t_bars, .ref t_prices, .ref t_winds, .ref t_kinds, .ref t_looks, .ref t_noises, .ref t_repeats])), (t_looks, .inl (cI, 6, .inl t_looks_v)), (t_kinds, .inl (cI, 6, .inl t_kinds_v)), (m_wind, .inl (cI, 6, .inl v2.2))] H := hP
    have hD : va_D A [(m_h, .inr (2, [.int v2.1, .int m_paid, .int m_next, .int m_taken, .int m_hat, .int m_time, .ref m_wind])), (t_h, .inr (3, [.int t_players, .int t_bars, .ref t_prices, .ref t_winds, .ref t_kinds, .ref t_looks, .ref t_noises, .ref t_repeats])), (t_looks, .inl (cI, 6, .inl t_looks_v)), (t_kinds, .inl (cI, 6, .inl t_kinds_v)), (m_wind, .inl (cI, 6, .inl v2.2))] := hD
    have hl : lv_has ls 4 [(0, .ref m_h), (1, .ref t_h), (2, .int (nI k2))] := hl
    refine lv_iload_n hx hb dX2_wakeDrums_2 rfl (lv_at hl 2 rfl) ?_
    refine lv_aload_n hx hb dX2_wakeDrums_3 rfl (lv_at hl 1 rfl) ?_
    refine va_get (D := (dC, dI)) (ci := 3) (v := .int t_players) (C := RX3) (T := TX3) (N := 8) hx hb hts hinX3 hown hK hP 1 rfl rfl 0 (by decide) w1 (fun _ h9 => h9) rfl dX2_wakeDrums_4 ?_
    refine lv_icmp_ge (tgt := 82) hx hb dX2_wakeDrums_7 (by decide) (fun c_7 => absurd c_7 (hg_lo1 hk)) (fun c_7 => ?_)
    refine lv_aload_n hx hb dX2_wakeDrums_10 rfl (lv_at hl 1 rfl) ?_
    refine va_get (D := (dC, dI)) (ci := 3) (v := .ref t_looks) (C := RX3) (T := TX3) (N := 8) hx hb hts hinX3 hown hK hP 1 rfl rfl 5 (by decide) w2 (fun _ h9 => h9) rfl dX2_wakeDrums_11 ?_
    refine lv_iload_n hx hb dX2_wakeDrums_14 rfl (lv_at hl 2 rfl) ?_
    obtain ⟨r1, er1, hw⟩ := lxb_o hw
    refine hg_ci (va_runSN (As := [.ref t_looks, .int (nI k2)]) (rest := []) ⟨hx, hb, hml, hown, hts⟩ (c_X4_at l dC dI cI cZ cM _ t_looks (nI k2) 6 t_looks_v (by decide) r1 er1) ⟨va_cnB 2 hts gX2_wakeDrums_X4_at_n47 rfl rfl rfl hN.2.2.1 w7 (by decide +kernel) ⟨Nat.le_of_ble_eq_true rfl, Nat.le_of_ble_eq_true rfl⟩, w6, trivial⟩ (hgPreS hP hD hK hN [2] rfl rfl) rfl rfl hl.1 rfl (lv_room (Nat.le_of_ble_eq_true rfl)) dX2_wakeDrums_15 ⟨Nat.zero_le _, Nat.zero_le _⟩) hP hD hS hA (wr := [(m_h, .inr (2, [.int v2.1, .int m_paid, .int m_next, .int m_taken, .int m_hat, .int m_time, .ref m_wind])), (t_h, .inr (3, [.int t_players, .int t_bars, .ref t_prices, .ref t_winds, .ref t_kinds, .ref t_looks, .ref t_noises, .ref t_repeats])), (t_kinds, .inl (cI, 6, .inl t_kinds_v)), (m_wind, .inl (cI, 6, .inl v2.2))]) (wf := [(m_h, .inr (2, [.int v2.1, .int m_paid, .int m_next, .int m_taken, .int m_hat, .int m_time, .ref m_wind])), (t_h, .inr (3, [.int t_players, .int t_bars, .ref t_prices, .ref t_winds, .ref t_kinds, .ref t_looks, .ref t_noises, .ref t_repeats])), (t_looks, .inl (cI, 6, .inl t_looks_v)), (t_kinds, .inl (cI, 6, .inl t_kinds_v)), (m_wind, .inl (cI, 6, .inl v2.2))]) [2] [0, 1, 3, 4] [0, 1, 4, 2, 3] rfl rfl rfl (by decide) rfl rfl (fun H locs hP hD hS => ?_)
    refine lv_istore_n (lv' := [(3, .int r1), (0, .ref m_h), (1, .ref t_h), (2, .int (nI k2))]) hx hb dX2_wakeDrums_18 rfl hl (by decide) rfl (fun ls hl => ?_)
    refine lv_aload_n hx hb dX2_wakeDrums_19 rfl (lv_at hl 2 rfl) ?_
    refine va_get (D := (dC, dI)) (ci := 3) (v := .ref t_kinds) (C := RX3) (T := TX3) (N := 8) hx hb hts hinX3 hown hK hP 1 rfl rfl 4 (by decide) w3 (fun _ h9 => h9) rfl dX2_wakeDrums_20 ?_
    refine lv_iload_n hx hb dX2_wakeDrums_23 rfl (lv_at hl 3 rfl) ?_
    obtain ⟨r2, er2, hw⟩ := lxb_o hw
    refine hg_ci (va_runSN (As := [.ref t_kinds, .int (nI k2)]) (rest := []) ⟨hx, hb, hml, hown, hts⟩ (c_X4_at l dC dI cI cZ cM _ t_kinds (nI k2) 6 t_kinds_v (by decide) r2 er2) ⟨va_cnB 2 hts gX2_wakeDrums_X4_at_n47 rfl rfl rfl hN.2.2.1 w7 (by decide +kernel) ⟨Nat.le_of_ble_eq_true rfl, Nat.le_of_ble_eq_true rfl⟩, w6, trivial⟩ (hgPreS hP hD hK hN [3] rfl rfl) rfl rfl hl.1 rfl (lv_room (Nat.le_of_ble_eq_true rfl)) dX2_wakeDrums_24 ⟨Nat.zero_le _, Nat.zero_le _⟩) hP hD hS hA (wr := [(m_h, .inr (2, [.int v2.1, .int m_paid, .int m_next, .int m_taken, .int m_hat, .int m_time, .ref m_wind])), (t_h, .inr (3, [.int t_players, .int t_bars, .ref t_prices, .ref t_winds, .ref t_kinds, .ref t_looks, .ref t_noises, .ref t_repeats])), (t_looks, .inl (cI, 6, .inl t_looks_v)), (m_wind, .inl (cI, 6, .inl v2.2))]) (wf := [(m_h, .inr (2, [.int v2.1, .int m_paid, .int m_next, .int m_taken, .int m_hat, .int m_time, .ref m_wind])), (t_h, .inr (3, [.int t_players, .int t_bars, .ref t_prices, .ref t_winds, .ref t_kinds, .ref t_looks, .ref t_noises, .ref t_repeats])), (t_looks, .inl (cI, 6, .inl t_looks_v)), (t_kinds, .inl (cI, 6, .inl t_kinds_v)), (m_wind, .inl (cI, 6, .inl v2.2))]) [3] [0, 1, 2, 4] [0, 1, 2, 4, 3] rfl rfl rfl (by decide) rfl rfl (fun H locs hP hD hS => ?_)
    refine lv_iconst (v := 3) hx hb dX2_wakeDrums_27 (by decide) ?_
    refine lv_icmp_ne (tgt := 76) hx hb dX2_wakeDrums_28 (by decide) (fun c_28 => ?_) (fun c_28 => ?_)
    · have hw := hw.trans (if_neg c_28)
      refine lv_iinc (v := nI (k2 + 1)) (lv' := [(2, .int (nI (k2 + 1))), (3, .int r1), (0, .ref m_h), (1, .ref t_h)]) hx hb dX2_wakeDrums_76 hl (k := 3) rfl (nI_1 k2) (by decide) rfl (fun ls hl => ?_)
      refine lv_goto (tgt := 2) hx hb dX2_wakeDrums_79 (by decide) ?_
      subst hw
      exact ih _ _ _ hP hD hS (lv_sub hl [2, 3, 0] rfl)
    · have hw := hw.trans (if_pos c_28)
      refine lv_aload_n hx hb dX2_wakeDrums_31 rfl (lv_at hl 1 rfl) ?_
      refine lv_iload_n hx hb dX2_wakeDrums_32 rfl (lv_at hl 3 rfl) ?_
      obtain ⟨r3, er3, hw⟩ := lxb_o hw
      refine hg_ci (va_runV (As := [.int (nI k2)]) (rest := []) ⟨hx, hb, hml, hown, hts⟩ (c_X2_isTired l dC dI cI cZ cM _ m_h (nI k2) v2.1 m_paid m_next m_taken m_hat m_time m_wind r3 er3) (cwV 1 hts gX2_wakeDrums_X2_isTired rfl rfl rfl (by decide +kernel) ⟨Nat.le_of_ble_eq_true rfl, Nat.le_of_ble_eq_true rfl⟩) (hgPreV (C := RX2) (T := TX2) (N := 7) (ci := 2) (q0 := 0) hP hD hK hN [0] rfl rfl rfl rfl) rfl rfl hl.1 rfl (lv_room (Nat.le_of_ble_eq_true rfl)) dX2_wakeDrums_33 ⟨Nat.zero_le _, Nat.zero_le _⟩) hP hD hS hA (wr := [(t_h, .inr (3, [.int t_players, .int t_bars, .ref t_prices, .ref t_winds, .ref t_kinds, .ref t_looks, .ref t_noises, .ref t_repeats])), (t_looks, .inl (cI, 6, .inl t_looks_v)), (t_kinds, .inl (cI, 6, .inl t_kinds_v)), (m_wind, .inl (cI, 6, .inl v2.2))]) (wf := [(m_h, .inr (2, [.int v2.1, .int m_paid, .int m_next, .int m_taken, .int m_hat, .int m_time, .ref m_wind])), (t_h, .inr (3, [.int t_players, .int t_bars, .ref t_prices, .ref t_winds, .ref t_kinds, .ref t_looks, .ref t_noises, .ref t_repeats])), (t_looks, .inl (cI, 6, .inl t_looks_v)), (t_kinds, .inl (cI, 6, .inl t_kinds_v)), (m_wind, .inl (cI, 6, .inl v2.2))]) [0] [1, 2, 3, 4] [4, 0, 1, 2, 3] rfl rfl rfl (by decide) rfl rfl (fun H locs hP hD hS => ?_)
      refine lv_if_eq (tgt := 76) hx hb dX2_wakeDrums_36 (by decide) (fun c_36 => ?_) (fun c_36 => ?_)
      · have hw := hw.trans (if_pos c_36)
        refine lv_iinc (v := nI (k2 + 1)) (lv' := [(2, .int (nI (k2 + 1))), (3, .int r1), (0, .ref m_h), (1, .ref t_h)]) hx hb dX2_wakeDrums_76 hl (k := 3) rfl (nI_1 k2) (by decide) rfl (fun ls hl => ?_)
        refine lv_goto (tgt := 2) hx hb dX2_wakeDrums_79 (by decide) ?_
        subst hw
        exact ih _ _ _ hP hD hS (lv_sub hl [2, 3, 0] rfl)
      · have hw := hw.trans (if_neg c_36)
        refine lv_aload_n hx hb dX2_wakeDrums_39 rfl (lv_at hl 2 rfl) ?_
        refine lv_iload_n hx hb dX2_wakeDrums_40 rfl (lv_at hl 0 rfl) ?_
        obtain ⟨r4, er4, hw⟩ := lxb_o hw
        refine hg_ci (va_runV (As := [.int r1]) (rest := []) ⟨hx, hb, hml, hown, hts⟩ (c_X3_hasPlayer l dC dI cI cZ cM _ t_h r1 t_players t_bars t_prices t_winds t_kinds t_looks t_noises t_repeats r4 er4) (cwV 1 hts gX2_wakeDrums_X3_hasPlayer rfl rfl rfl (by decide +kernel) ⟨Nat.le_of_ble_eq_true rfl, Nat.le_of_ble_eq_true rfl⟩) (hgPreV (C := RX3) (T := TX3) (N := 8) (ci := 3) (q0 := 1) hP hD hK hN [1] rfl rfl rfl rfl) rfl rfl hl.1 rfl (lv_room (Nat.le_of_ble_eq_true rfl)) dX2_wakeDrums_41 ⟨Nat.zero_le _, Nat.zero_le _⟩) hP hD hS hA (wr := [(m_h, .inr (2, [.int v2.1, .int m_paid, .int m_next, .int m_taken, .int m_hat, .int m_time, .ref m_wind])), (t_looks, .inl (cI, 6, .inl t_looks_v)), (t_kinds, .inl (cI, 6, .inl t_kinds_v)), (m_wind, .inl (cI, 6, .inl v2.2))]) (wf := [(m_h, .inr (2, [.int v2.1, .int m_paid, .int m_next, .int m_taken, .int m_hat, .int m_time, .ref m_wind])), (t_h, .inr (3, [.int t_players, .int t_bars, .ref t_prices, .ref t_winds, .ref t_kinds, .ref t_looks, .ref t_noises, .ref t_repeats])), (t_looks, .inl (cI, 6, .inl t_looks_v)), (t_kinds, .inl (cI, 6, .inl t_kinds_v)), (m_wind, .inl (cI, 6, .inl v2.2))]) [1] [0, 2, 3, 4] [0, 4, 1, 2, 3] rfl rfl rfl (by decide) rfl rfl (fun H locs hP hD hS => ?_)
        refine lv_if_eq (tgt := 76) hx hb dX2_wakeDrums_44 (by decide) (fun c_44 => ?_) (fun c_44 => ?_)
        · have hw := hw.trans (if_pos c_44)
          refine lv_iinc (v := nI (k2 + 1)) (lv' := [(2, .int (nI (k2 + 1))), (3, .int r1), (0, .ref m_h), (1, .ref t_h)]) hx hb dX2_wakeDrums_76 hl (k := 3) rfl (nI_1 k2) (by decide) rfl (fun ls hl => ?_)
          refine lv_goto (tgt := 2) hx hb dX2_wakeDrums_79 (by decide) ?_
          subst hw
          exact ih _ _ _ hP hD hS (lv_sub hl [2, 3, 0] rfl)
        · have hw := hw.trans (if_neg c_44)
          refine lv_aload_n hx hb dX2_wakeDrums_47 rfl (lv_at hl 1 rfl) ?_
          refine lv_iload_n hx hb dX2_wakeDrums_48 rfl (lv_at hl 0 rfl) ?_
          obtain ⟨r5, er5, hw⟩ := lxb_o hw
          refine hg_ci (va_runV (As := [.int r1]) (rest := []) ⟨hx, hb, hml, hown, hts⟩ (c_X2_isPlaying l dC dI cI cZ cM _ m_h r1 v2.1 m_paid m_next m_taken m_hat m_time m_wind r5 er5) (cwV 1 hts gX2_wakeDrums_X2_isPlaying rfl rfl rfl (by decide +kernel) ⟨Nat.le_of_ble_eq_true rfl, Nat.le_of_ble_eq_true rfl⟩) (hgPreV (C := RX2) (T := TX2) (N := 7) (ci := 2) (q0 := 0) hP hD hK hN [0] rfl rfl rfl rfl) rfl rfl hl.1 rfl (lv_room (Nat.le_of_ble_eq_true rfl)) dX2_wakeDrums_49 ⟨Nat.zero_le _, Nat.zero_le _⟩) hP hD hS hA (wr := [(t_h, .inr (3, [.int t_players, .int t_bars, .ref t_prices, .ref t_winds, .ref t_kinds, .ref t_looks, .ref t_noises, .ref t_repeats])), (t_looks, .inl (cI, 6, .inl t_looks_v)), (t_kinds, .inl (cI, 6, .inl t_kinds_v)), (m_wind, .inl (cI, 6, .inl v2.2))]) (wf := [(m_h, .inr (2, [.int v2.1, .int m_paid, .int m_next, .int m_taken, .int m_hat, .int m_time, .ref m_wind])), (t_h, .inr (3, [.int t_players, .int t_bars, .ref t_prices, .ref t_winds, .ref t_kinds, .ref t_looks, .ref t_noises, .ref t_repeats])), (t_looks, .inl (cI, 6, .inl t_looks_v)), (t_kinds, .inl (cI, 6, .inl t_kinds_v)), (m_wind, .inl (cI, 6, .inl v2.2))]) [0] [1, 2, 3, 4] [4, 0, 1, 2, 3] rfl rfl rfl (by decide) rfl rfl (fun H locs hP hD hS => ?_)
          refine lv_if_eq (tgt := 76) hx hb dX2_wakeDrums_52 (by decide) (fun c_52 => ?_) (fun c_52 => ?_)
          · have hw := hw.trans (if_pos c_52)
            refine lv_iinc (v := nI (k2 + 1)) (lv' := [(2, .int (nI (k2 + 1))), (3, .int r1), (0, .ref m_h), (1, .ref t_h)]) hx hb dX2_wakeDrums_76 hl (k := 3) rfl (nI_1 k2) (by decide) rfl (fun ls hl => ?_)
            refine lv_goto (tgt := 2) hx hb dX2_wakeDrums_79 (by decide) ?_
            subst hw
            exact ih _ _ _ hP hD hS (lv_sub hl [2, 3, 0] rfl)
          · have hw := hw.trans (if_neg c_52)
            refine lv_aload_n hx hb dX2_wakeDrums_55 rfl (lv_at hl 1 rfl) ?_
            refine lv_dup hx hb dX2_wakeDrums_56 rfl ?_
            refine va_get (D := (dC, dI)) (ci := 2) (v := .int v2.1) (C := RX2) (T := TX2) (N := 7) hx hb hts hinX2 hown hK hP 0 rfl rfl 0 (by decide) w4 (fun _ h9 => h9) rfl dX2_wakeDrums_57 ?_
            refine lv_iconst (v := 1) hx hb dX2_wakeDrums_60 (by decide) ?_
            refine lv_iload_n hx hb dX2_wakeDrums_61 rfl (lv_at hl 3 rfl) ?_
            refine lv_ishl hx hb dX2_wakeDrums_62 ?_
            refine lv_ior hx hb dX2_wakeDrums_63 ?_
            obtain ⟨y6, ey6, hw⟩ := lxb_o hw
            refine lv_topi (fun z ez => ?_)
            obtain rfl : y6 = z := ey6.trans ez.symm
            refine va_put (D := (dC, dI)) (ci := 2) (v := .int y6) (ty := .int) (C := RX2) (T := TX2) (N := 7) hx hb hts hinX2 tyX2 tyX2_ok nmX2 hown hK hP hD hS 0 rfl rfl 0 (by decide) w4 (fun _ h9 => h9) rfl (by decide +kernel) rfl rfl (Nat.le_of_ble_eq_true rfl) dX2_wakeDrums_64 (fun H locs hP hD hS => ?_)
            have hP : va_P (dC, dI) vwCl [(m_h, .inr (2, [.int y6, .int m_paid, .int m_next, .int m_taken, .int m_hat, .int m_time, .ref m_wind])), (t_h, .inr (3, [.int t_players, .int t_bars, .ref t_prices, .ref t_winds, .ref t_kinds, .ref t_looks, .ref t_noises, .ref t_repeats])), (t_looks, .inl (cI, 6, .inl t_looks_v)), (t_kinds, .inl (cI, 6, .inl t_kinds_v)), (m_wind, .inl (cI, 6, .inl v2.2))] H := hP
            have hD : va_D A [(m_h, .inr (2, [.int y6, .int m_paid, .int m_next, .int m_taken, .int m_hat, .int m_time, .ref m_wind])), (t_h, .inr (3, [.int t_players, .int t_bars, .ref t_prices, .ref t_winds, .ref t_kinds, .ref t_looks, .ref t_noises, .ref t_repeats])), (t_looks, .inl (cI, 6, .inl t_looks_v)), (t_kinds, .inl (cI, 6, .inl t_kinds_v)), (m_wind, .inl (cI, 6, .inl v2.2))] := hD
            refine lv_aload_n hx hb dX2_wakeDrums_67 rfl (lv_at hl 1 rfl) ?_
            refine va_get (D := (dC, dI)) (ci := 2) (v := .ref m_wind) (C := RX2) (T := TX2) (N := 7) hx hb hts hinX2 hown hK hP 0 rfl rfl 6 (by decide) w5 (fun _ h9 => h9) rfl dX2_wakeDrums_68 ?_
            refine lv_iload_n hx hb dX2_wakeDrums_71 rfl (lv_at hl 3 rfl) ?_
            refine lv_iconst (v := 2) hx hb dX2_wakeDrums_72 (by decide) ?_
            obtain ⟨r7, er7, hw⟩ := lxb_o hw
            refine hg_cv (va_runSN (As := [.ref m_wind, .int (nI k2), .int 2]) (rest := []) ⟨hx, hb, hml, hown, hts⟩ (c_X4_put l dC dI cI cZ cM _ m_wind (nI k2) 2 6 v2.2 (by decide) r7 er7) ⟨va_cnB 3 hts gX2_wakeDrums_X4_put_n51 rfl rfl rfl hN.2.2.2.1 w7 (by decide +kernel) ⟨Nat.le_of_ble_eq_true rfl, Nat.le_of_ble_eq_true rfl⟩, w29, trivial⟩ (hgPreS hP hD hK hN [4] rfl rfl) rfl rfl hl.1 rfl (lv_room (Nat.le_of_ble_eq_true rfl)) dX2_wakeDrums_73 ⟨Nat.zero_le _, Nat.zero_le _⟩) hP hD hS hA (wr := [(m_h, .inr (2, [.int y6, .int m_paid, .int m_next, .int m_taken, .int m_hat, .int m_time, .ref m_wind])), (t_h, .inr (3, [.int t_players, .int t_bars, .ref t_prices, .ref t_winds, .ref t_kinds, .ref t_looks, .ref t_noises, .ref t_repeats])), (t_looks, .inl (cI, 6, .inl t_looks_v)), (t_kinds, .inl (cI, 6, .inl t_kinds_v))]) (wf := [(m_h, .inr (2, [.int y6, .int m_paid, .int m_next, .int m_taken, .int m_hat, .int m_time, .ref m_wind])), (t_h, .inr (3, [.int t_players, .int t_bars, .ref t_prices, .ref t_winds, .ref t_kinds, .ref t_looks, .ref t_noises, .ref t_repeats])), (t_looks, .inl (cI, 6, .inl t_looks_v)), (t_kinds, .inl (cI, 6, .inl t_kinds_v)), (m_wind, .inl (cI, 6, .inl r7))]) [4] [0, 1, 2, 3] [0, 1, 2, 3, 4] rfl rfl rfl (by decide) rfl rfl (fun H locs hP hD hS => ?_)
            refine lv_iinc (v := nI (k2 + 1)) (lv' := [(2, .int (nI (k2 + 1))), (3, .int r1), (0, .ref m_h), (1, .ref t_h)]) hx hb dX2_wakeDrums_76 hl (k := 3) rfl (nI_1 k2) (by decide) rfl (fun ls hl => ?_)
            refine lv_goto (tgt := 2) hx hb dX2_wakeDrums_79 (by decide) ?_
            subst hw
            exact ih _ _ _ hP hD hS (lv_sub hl [2, 3, 0] rfl)

set_option maxHeartbeats 4000000 in
set_option maxRecDepth 100000 in
theorem c_X2_turnPage (l : Launch) (dC : Nat → ClassId) (dI : Nat → Nat → Nat) (cI cZ cM : ClassId) (sz : Nat) (m_h : Nat) (t_h : Nat) (m_playing : Int32) (m_paid : Int32) (m_next : Int32) (m_taken : Int32) (m_hat : Int32) (m_time : Int32) (m_wind : Nat) (t_players : Int32) (t_bars : Int32) (t_prices : Nat) (t_winds : Nat) (t_kinds : Nat) (t_looks : Nat) (t_noises : Nat) (t_repeats : Nat) (t_repeats_v : Nat → Int32) (u : Int32 × Int32) (hu : u = f_X2_turnPage m_next m_taken t_bars t_repeats_v) : Met l yX2_turnPage wsX2_turnPage { frames := 1, cells := 0, slots := 0, locals := 21 } (hgPc [.ref m_h, .ref t_h] (dC, dI) cI cZ cM [(m_h, .inr (2, [.int m_playing, .int m_paid, .int m_next, .int m_taken, .int m_hat, .int m_time, .ref m_wind])), (t_h, .inr (3, [.int t_players, .int t_bars, .ref t_prices, .ref t_winds, .ref t_kinds, .ref t_looks, .ref t_noises, .ref t_repeats])), (t_repeats, .inl (cI, 8, .inl t_repeats_v))] sz) (hgQv (dC, dI) [(m_h, .inr (2, [.int m_playing, .int m_paid, .int u.1, .int u.2, .int m_hat, .int m_time, .ref m_wind])), (t_h, .inr (3, [.int t_players, .int t_bars, .ref t_prices, .ref t_winds, .ref t_kinds, .ref t_looks, .ref t_noises, .ref t_repeats])), (t_repeats, .inl (cI, 8, .inl t_repeats_v))] (va_A [(m_h, .inr (2, [.int m_playing, .int m_paid, .int m_next, .int m_taken, .int m_hat, .int m_time, .ref m_wind])), (t_h, .inr (3, [.int t_players, .int t_bars, .ref t_prices, .ref t_winds, .ref t_kinds, .ref t_looks, .ref t_noises, .ref t_repeats])), (t_repeats, .inl (cI, 8, .inl t_repeats_v))] sz)) 0 0 (va_A [(m_h, .inr (2, [.int m_playing, .int m_paid, .int m_next, .int m_taken, .int m_hat, .int m_time, .ref m_wind])), (t_h, .inr (3, [.int t_players, .int t_bars, .ref t_prices, .ref t_winds, .ref t_kinds, .ref t_looks, .ref t_noises, .ref t_repeats])), (t_repeats, .inl (cI, 8, .inl t_repeats_v))] sz) := by
  refine hg_ofW (cc := cX2_turnPage) (maxL := 3) (ret := none) (own := RX2) (fun A => hgQv (dC, dI) [(m_h, .inr (2, [.int m_playing, .int m_paid, .int u.1, .int u.2, .int m_hat, .int m_time, .ref m_wind])), (t_h, .inr (3, [.int t_players, .int t_bars, .ref t_prices, .ref t_winds, .ref t_kinds, .ref t_looks, .ref t_noises, .ref t_repeats])), (t_repeats, .inl (cI, 8, .inl t_repeats_v))] A) rfl (by decide) rfl (Nat.le_of_ble_eq_true rfl) ?_
  intro p e s m below meth c ls A hsz hx hb hr hml hown hts hlk hnm hK hN hA hP hD hS hl
  subst hsz
  have w1 := hts (.fieldLink RX2 118 "HatGoesRound$Told" "repeats" "[I") (List.mem_of_getElem? (i := 1) rfl)
  have hinX3 : ∀ w ∈ u_ws RX3 TX3 8, w ∈ wsX2_turnPage := fun _ h => List.mem_cons_of_mem _ (List.mem_append_left _ (List.mem_append_right _ h))
  have w2 := hts (.fieldLink RX2 28 "HatGoesRound$Moment" "next" "I") (List.mem_of_getElem? (i := 2) rfl)
  have hinX2 : ∀ w ∈ u_ws RX2 TX2 7, w ∈ wsX2_turnPage := fun _ h => List.mem_cons_of_mem _ (List.mem_append_right _ h)
  have w5 := hts (.initialized RX4) (List.mem_of_getElem? (i := 5) rfl)
  have w4 := hts (.static yX4_at) (List.mem_of_getElem? (i := 4) rfl)
  have w3 := hts (.fieldLink RX2 31 "HatGoesRound$Moment" "taken" "I") (List.mem_of_getElem? (i := 3) rfl)
  have hl : lv_has ls 3 [(0, .ref m_h), (1, .ref t_h)] := hl
  unfold f_X2_turnPage at hu
  refine lv_aload_n hx hb dX2_turnPage_0 rfl (lv_at hl 1 rfl) ?_
  refine va_get (D := (dC, dI)) (ci := 3) (v := .ref t_repeats) (C := RX3) (T := TX3) (N := 8) hx hb hts hinX3 hown hK hP 1 rfl rfl 7 (by decide) w1 (fun _ h9 => h9) rfl dX2_turnPage_1 ?_
  refine lv_aload_n hx hb dX2_turnPage_4 rfl (lv_at hl 0 rfl) ?_
  refine va_get (D := (dC, dI)) (ci := 2) (v := .int m_next) (C := RX2) (T := TX2) (N := 7) hx hb hts hinX2 hown hK hP 0 rfl rfl 2 (by decide) w2 (fun _ h9 => h9) rfl dX2_turnPage_5 ?_
  obtain ⟨r1, er1, hu⟩ := lxb_o hu
  refine hg_ci (va_runSN (As := [.ref t_repeats, .int m_next]) (rest := []) ⟨hx, hb, hml, hown, hts⟩ (c_X4_at l dC dI cI cZ cM _ t_repeats m_next 8 t_repeats_v (by decide) r1 er1) ⟨va_cnB 2 hts gX2_turnPage_X4_at_n47 rfl rfl rfl hN.2.2.1 w5 (by decide +kernel) ⟨Nat.le_of_ble_eq_true rfl, Nat.le_of_ble_eq_true rfl⟩, w4, trivial⟩ (hgPreS hP hD hK hN [2] rfl rfl) rfl rfl hl.1 rfl (lv_room (Nat.le_of_ble_eq_true rfl)) dX2_turnPage_8 ⟨Nat.zero_le _, Nat.zero_le _⟩) hP hD hS hA (wr := [(m_h, .inr (2, [.int m_playing, .int m_paid, .int m_next, .int m_taken, .int m_hat, .int m_time, .ref m_wind])), (t_h, .inr (3, [.int t_players, .int t_bars, .ref t_prices, .ref t_winds, .ref t_kinds, .ref t_looks, .ref t_noises, .ref t_repeats]))]) (wf := [(m_h, .inr (2, [.int m_playing, .int m_paid, .int m_next, .int m_taken, .int m_hat, .int m_time, .ref m_wind])), (t_h, .inr (3, [.int t_players, .int t_bars, .ref t_prices, .ref t_winds, .ref t_kinds, .ref t_looks, .ref t_noises, .ref t_repeats])), (t_repeats, .inl (cI, 8, .inl t_repeats_v))]) [2] [0, 1] [0, 1, 2] rfl rfl rfl (by decide) rfl rfl (fun H locs hP hD hS => ?_)
  refine lv_iconst (v := 1) hx hb dX2_turnPage_11 (by decide) ?_
  refine lv_isub hx hb dX2_turnPage_12 ?_
  refine lv_istore_n (lv' := [(2, .int (r1 - 1)), (0, .ref m_h), (1, .ref t_h)]) hx hb dX2_turnPage_13 rfl hl (by decide) rfl (fun ls hl => ?_)
  refine lv_aload_n hx hb dX2_turnPage_14 rfl (lv_at hl 2 rfl) ?_
  refine lv_iload_n hx hb dX2_turnPage_15 rfl (lv_at hl 0 rfl) ?_
  obtain ⟨r2, er2, hu⟩ := lxb_o hu
  refine hg_ci (va_runV (As := [.int (r1 - 1)]) (rest := []) ⟨hx, hb, hml, hown, hts⟩ (c_X3_hasBar l dC dI cI cZ cM _ t_h (r1 - 1) t_players t_bars t_prices t_winds t_kinds t_looks t_noises t_repeats r2 er2) (cwV 1 hts gX2_turnPage_X3_hasBar rfl rfl rfl (by decide +kernel) ⟨Nat.le_of_ble_eq_true rfl, Nat.le_of_ble_eq_true rfl⟩) (hgPreV (C := RX3) (T := TX3) (N := 8) (ci := 3) (q0 := 1) hP hD hK hN [1] rfl rfl rfl rfl) rfl rfl hl.1 rfl (lv_room (Nat.le_of_ble_eq_true rfl)) dX2_turnPage_16 ⟨Nat.zero_le _, Nat.zero_le _⟩) hP hD hS hA (wr := [(m_h, .inr (2, [.int m_playing, .int m_paid, .int m_next, .int m_taken, .int m_hat, .int m_time, .ref m_wind])), (t_repeats, .inl (cI, 8, .inl t_repeats_v))]) (wf := [(m_h, .inr (2, [.int m_playing, .int m_paid, .int m_next, .int m_taken, .int m_hat, .int m_time, .ref m_wind])), (t_h, .inr (3, [.int t_players, .int t_bars, .ref t_prices, .ref t_winds, .ref t_kinds, .ref t_looks, .ref t_noises, .ref t_repeats])), (t_repeats, .inl (cI, 8, .inl t_repeats_v))]) [1] [0, 2] [0, 2, 1] rfl rfl rfl (by decide) rfl rfl (fun H locs hP hD hS => ?_)
  refine lv_if_eq (tgt := 56) hx hb dX2_turnPage_19 (by decide) (fun c_19 => ?_) (fun c_19 => ?_)
  · have hu := hu.trans (if_pos c_19)
    refine lv_aload_n hx hb dX2_turnPage_56 rfl (lv_at hl 1 rfl) ?_
    refine lv_dup hx hb dX2_turnPage_57 rfl ?_
    refine va_get (D := (dC, dI)) (ci := 2) (v := .int m_next) (C := RX2) (T := TX2) (N := 7) hx hb hts hinX2 hown hK hP 0 rfl rfl 2 (by decide) w2 (fun _ h9 => h9) rfl dX2_turnPage_58 ?_
    refine lv_iconst (v := 1) hx hb dX2_turnPage_61 (by decide) ?_
    refine lv_iadd hx hb dX2_turnPage_62 ?_
    refine va_put (D := (dC, dI)) (ci := 2) (v := .int (m_next + 1)) (ty := .int) (C := RX2) (T := TX2) (N := 7) hx hb hts hinX2 tyX2 tyX2_ok nmX2 hown hK hP hD hS 0 rfl rfl 2 (by decide) w2 (fun _ h9 => h9) rfl (by decide +kernel) rfl rfl (Nat.le_of_ble_eq_true rfl) dX2_turnPage_63 (fun H locs hP hD hS => ?_)
    have hP : va_P (dC, dI) vwCl [(m_h, .inr (2, [.int m_playing, .int m_paid, .int (m_next + 1), .int m_taken, .int m_hat, .int m_time, .ref m_wind])), (t_h, .inr (3, [.int t_players, .int t_bars, .ref t_prices, .ref t_winds, .ref t_kinds, .ref t_looks, .ref t_noises, .ref t_repeats])), (t_repeats, .inl (cI, 8, .inl t_repeats_v))] H := hP
    have hD : va_D A [(m_h, .inr (2, [.int m_playing, .int m_paid, .int (m_next + 1), .int m_taken, .int m_hat, .int m_time, .ref m_wind])), (t_h, .inr (3, [.int t_players, .int t_bars, .ref t_prices, .ref t_winds, .ref t_kinds, .ref t_looks, .ref t_noises, .ref t_repeats])), (t_repeats, .inl (cI, 8, .inl t_repeats_v))] := hD
    subst hu
    exact hg_rv hx hb hr hlk hP hD hS dX2_turnPage_66
  · have hu := hu.trans (if_neg c_19)
    refine lv_aload_n hx hb dX2_turnPage_22 rfl (lv_at hl 1 rfl) ?_
    refine lv_aload_n hx hb dX2_turnPage_23 rfl (lv_at hl 1 rfl) ?_
    refine va_get (D := (dC, dI)) (ci := 2) (v := .int m_next) (C := RX2) (T := TX2) (N := 7) hx hb hts hinX2 hown hK hP 0 rfl rfl 2 (by decide) w2 (fun _ h9 => h9) rfl dX2_turnPage_24 ?_
    obtain ⟨r3, er3, hu⟩ := lxb_o hu
    refine hg_ci (va_runV (As := [.int m_next]) (rest := []) ⟨hx, hb, hml, hown, hts⟩ (c_X2_isTaken l dC dI cI cZ cM _ m_h m_next m_playing m_paid m_next m_taken m_hat m_time m_wind r3 er3) (cwV 1 hts gX2_turnPage_X2_isTaken rfl rfl rfl (by decide +kernel) ⟨Nat.le_of_ble_eq_true rfl, Nat.le_of_ble_eq_true rfl⟩) (hgPreV (C := RX2) (T := TX2) (N := 7) (ci := 2) (q0 := 0) hP hD hK hN [0] rfl rfl rfl rfl) rfl rfl hl.1 rfl (lv_room (Nat.le_of_ble_eq_true rfl)) dX2_turnPage_27 ⟨Nat.zero_le _, Nat.zero_le _⟩) hP hD hS hA (wr := [(t_h, .inr (3, [.int t_players, .int t_bars, .ref t_prices, .ref t_winds, .ref t_kinds, .ref t_looks, .ref t_noises, .ref t_repeats])), (t_repeats, .inl (cI, 8, .inl t_repeats_v))]) (wf := [(m_h, .inr (2, [.int m_playing, .int m_paid, .int m_next, .int m_taken, .int m_hat, .int m_time, .ref m_wind])), (t_h, .inr (3, [.int t_players, .int t_bars, .ref t_prices, .ref t_winds, .ref t_kinds, .ref t_looks, .ref t_noises, .ref t_repeats])), (t_repeats, .inl (cI, 8, .inl t_repeats_v))]) [0] [1, 2] [2, 0, 1] rfl rfl rfl (by decide) rfl rfl (fun H locs hP hD hS => ?_)
    refine lv_if_ne (tgt := 56) hx hb dX2_turnPage_30 (by decide) (fun c_30 => ?_) (fun c_30 => ?_)
    · have hu := hu.trans (if_neg c_30)
      refine lv_aload_n hx hb dX2_turnPage_56 rfl (lv_at hl 1 rfl) ?_
      refine lv_dup hx hb dX2_turnPage_57 rfl ?_
      refine va_get (D := (dC, dI)) (ci := 2) (v := .int m_next) (C := RX2) (T := TX2) (N := 7) hx hb hts hinX2 hown hK hP 0 rfl rfl 2 (by decide) w2 (fun _ h9 => h9) rfl dX2_turnPage_58 ?_
      refine lv_iconst (v := 1) hx hb dX2_turnPage_61 (by decide) ?_
      refine lv_iadd hx hb dX2_turnPage_62 ?_
      refine va_put (D := (dC, dI)) (ci := 2) (v := .int (m_next + 1)) (ty := .int) (C := RX2) (T := TX2) (N := 7) hx hb hts hinX2 tyX2 tyX2_ok nmX2 hown hK hP hD hS 0 rfl rfl 2 (by decide) w2 (fun _ h9 => h9) rfl (by decide +kernel) rfl rfl (Nat.le_of_ble_eq_true rfl) dX2_turnPage_63 (fun H locs hP hD hS => ?_)
      have hP : va_P (dC, dI) vwCl [(m_h, .inr (2, [.int m_playing, .int m_paid, .int (m_next + 1), .int m_taken, .int m_hat, .int m_time, .ref m_wind])), (t_h, .inr (3, [.int t_players, .int t_bars, .ref t_prices, .ref t_winds, .ref t_kinds, .ref t_looks, .ref t_noises, .ref t_repeats])), (t_repeats, .inl (cI, 8, .inl t_repeats_v))] H := hP
      have hD : va_D A [(m_h, .inr (2, [.int m_playing, .int m_paid, .int (m_next + 1), .int m_taken, .int m_hat, .int m_time, .ref m_wind])), (t_h, .inr (3, [.int t_players, .int t_bars, .ref t_prices, .ref t_winds, .ref t_kinds, .ref t_looks, .ref t_noises, .ref t_repeats])), (t_repeats, .inl (cI, 8, .inl t_repeats_v))] := hD
      subst hu
      exact hg_rv hx hb hr hlk hP hD hS dX2_turnPage_66
    · have hu := hu.trans (if_pos c_30)
      refine lv_aload_n hx hb dX2_turnPage_33 rfl (lv_at hl 1 rfl) ?_
      refine lv_dup hx hb dX2_turnPage_34 rfl ?_
      refine va_get (D := (dC, dI)) (ci := 2) (v := .int m_taken) (C := RX2) (T := TX2) (N := 7) hx hb hts hinX2 hown hK hP 0 rfl rfl 3 (by decide) w3 (fun _ h9 => h9) rfl dX2_turnPage_35 ?_
      refine lv_iconst (v := 1) hx hb dX2_turnPage_38 (by decide) ?_
      refine lv_aload_n hx hb dX2_turnPage_39 rfl (lv_at hl 1 rfl) ?_
      refine va_get (D := (dC, dI)) (ci := 2) (v := .int m_next) (C := RX2) (T := TX2) (N := 7) hx hb hts hinX2 hown hK hP 0 rfl rfl 2 (by decide) w2 (fun _ h9 => h9) rfl dX2_turnPage_40 ?_
      refine lv_ishl hx hb dX2_turnPage_43 ?_
      refine lv_ior hx hb dX2_turnPage_44 ?_
      obtain ⟨y4, ey4, hu⟩ := lxb_o hu
      refine lv_topi (fun z ez => ?_)
      obtain rfl : y4 = z := ey4.trans ez.symm
      refine va_put (D := (dC, dI)) (ci := 2) (v := .int y4) (ty := .int) (C := RX2) (T := TX2) (N := 7) hx hb hts hinX2 tyX2 tyX2_ok nmX2 hown hK hP hD hS 0 rfl rfl 3 (by decide) w3 (fun _ h9 => h9) rfl (by decide +kernel) rfl rfl (Nat.le_of_ble_eq_true rfl) dX2_turnPage_45 (fun H locs hP hD hS => ?_)
      have hP : va_P (dC, dI) vwCl [(m_h, .inr (2, [.int m_playing, .int m_paid, .int m_next, .int y4, .int m_hat, .int m_time, .ref m_wind])), (t_h, .inr (3, [.int t_players, .int t_bars, .ref t_prices, .ref t_winds, .ref t_kinds, .ref t_looks, .ref t_noises, .ref t_repeats])), (t_repeats, .inl (cI, 8, .inl t_repeats_v))] H := hP
      have hD : va_D A [(m_h, .inr (2, [.int m_playing, .int m_paid, .int m_next, .int y4, .int m_hat, .int m_time, .ref m_wind])), (t_h, .inr (3, [.int t_players, .int t_bars, .ref t_prices, .ref t_winds, .ref t_kinds, .ref t_looks, .ref t_noises, .ref t_repeats])), (t_repeats, .inl (cI, 8, .inl t_repeats_v))] := hD
      refine lv_aload_n hx hb dX2_turnPage_48 rfl (lv_at hl 1 rfl) ?_
      refine lv_iload_n hx hb dX2_turnPage_49 rfl (lv_at hl 0 rfl) ?_
      refine va_put (D := (dC, dI)) (ci := 2) (v := .int (r1 - 1)) (ty := .int) (C := RX2) (T := TX2) (N := 7) hx hb hts hinX2 tyX2 tyX2_ok nmX2 hown hK hP hD hS 0 rfl rfl 2 (by decide) w2 (fun _ h9 => h9) rfl (by decide +kernel) rfl rfl (Nat.le_of_ble_eq_true rfl) dX2_turnPage_50 (fun H locs hP hD hS => ?_)
      have hP : va_P (dC, dI) vwCl [(m_h, .inr (2, [.int m_playing, .int m_paid, .int (r1 - 1), .int y4, .int m_hat, .int m_time, .ref m_wind])), (t_h, .inr (3, [.int t_players, .int t_bars, .ref t_prices, .ref t_winds, .ref t_kinds, .ref t_looks, .ref t_noises, .ref t_repeats])), (t_repeats, .inl (cI, 8, .inl t_repeats_v))] H := hP
      have hD : va_D A [(m_h, .inr (2, [.int m_playing, .int m_paid, .int (r1 - 1), .int y4, .int m_hat, .int m_time, .ref m_wind])), (t_h, .inr (3, [.int t_players, .int t_bars, .ref t_prices, .ref t_winds, .ref t_kinds, .ref t_looks, .ref t_noises, .ref t_repeats])), (t_repeats, .inl (cI, 8, .inl t_repeats_v))] := hD
      refine lv_goto (tgt := 66) hx hb dX2_turnPage_53 (by decide) ?_
      subst hu
      exact hg_rv hx hb hr hlk hP hD hS dX2_turnPage_66

set_option maxHeartbeats 4000000 in
set_option maxRecDepth 100000 in
theorem c_X2_playBar (l : Launch) (dC : Nat → ClassId) (dI : Nat → Nat → Nat) (cI cZ cM : ClassId) (sz : Nat) (m_h : Nat) (t_h : Nat) (m_playing : Int32) (m_paid : Int32) (m_next : Int32) (m_taken : Int32) (m_hat : Int32) (m_time : Int32) (m_wind : Nat) (t_players : Int32) (t_bars : Int32) (t_prices : Nat) (t_winds : Nat) (t_kinds : Nat) (t_looks : Nat) (t_noises : Nat) (t_repeats : Nat) (t_noises_v : Nat → Int32) (t_kinds_v : Nat → Int32) (m_wind_v : Nat → Int32) (t_looks_v : Nat → Int32) (t_repeats_v : Nat → Int32) (u : Int32 × Int32 × Int32 × Int32 × Int32 × (Nat → Int32)) (hu : u = f_X2_playBar m_playing m_paid m_next m_taken m_time t_players t_bars t_noises_v t_kinds_v m_wind_v t_looks_v t_repeats_v) : Met l yX2_playBar wsX2_playBar { frames := 3, cells := 0, slots := 0, locals := 67 } (hgPc [.ref m_h, .ref t_h] (dC, dI) cI cZ cM [(m_h, .inr (2, [.int m_playing, .int m_paid, .int m_next, .int m_taken, .int m_hat, .int m_time, .ref m_wind])), (t_h, .inr (3, [.int t_players, .int t_bars, .ref t_prices, .ref t_winds, .ref t_kinds, .ref t_looks, .ref t_noises, .ref t_repeats])), (t_noises, .inl (cI, 8, .inl t_noises_v)), (t_kinds, .inl (cI, 6, .inl t_kinds_v)), (m_wind, .inl (cI, 6, .inl m_wind_v)), (t_looks, .inl (cI, 6, .inl t_looks_v)), (t_repeats, .inl (cI, 8, .inl t_repeats_v))] sz) (hgQi (dC, dI) u.1 [(m_h, .inr (2, [.int u.2.1, .int m_paid, .int u.2.2.1, .int u.2.2.2.1, .int m_hat, .int u.2.2.2.2.1, .ref m_wind])), (t_h, .inr (3, [.int t_players, .int t_bars, .ref t_prices, .ref t_winds, .ref t_kinds, .ref t_looks, .ref t_noises, .ref t_repeats])), (t_noises, .inl (cI, 8, .inl t_noises_v)), (t_kinds, .inl (cI, 6, .inl t_kinds_v)), (m_wind, .inl (cI, 6, .inl u.2.2.2.2.2)), (t_looks, .inl (cI, 6, .inl t_looks_v)), (t_repeats, .inl (cI, 8, .inl t_repeats_v))] (va_A [(m_h, .inr (2, [.int m_playing, .int m_paid, .int m_next, .int m_taken, .int m_hat, .int m_time, .ref m_wind])), (t_h, .inr (3, [.int t_players, .int t_bars, .ref t_prices, .ref t_winds, .ref t_kinds, .ref t_looks, .ref t_noises, .ref t_repeats])), (t_noises, .inl (cI, 8, .inl t_noises_v)), (t_kinds, .inl (cI, 6, .inl t_kinds_v)), (m_wind, .inl (cI, 6, .inl m_wind_v)), (t_looks, .inl (cI, 6, .inl t_looks_v)), (t_repeats, .inl (cI, 8, .inl t_repeats_v))] sz)) 0 0 (va_A [(m_h, .inr (2, [.int m_playing, .int m_paid, .int m_next, .int m_taken, .int m_hat, .int m_time, .ref m_wind])), (t_h, .inr (3, [.int t_players, .int t_bars, .ref t_prices, .ref t_winds, .ref t_kinds, .ref t_looks, .ref t_noises, .ref t_repeats])), (t_noises, .inl (cI, 8, .inl t_noises_v)), (t_kinds, .inl (cI, 6, .inl t_kinds_v)), (m_wind, .inl (cI, 6, .inl m_wind_v)), (t_looks, .inl (cI, 6, .inl t_looks_v)), (t_repeats, .inl (cI, 8, .inl t_repeats_v))] sz) := by
  refine hg_ofW (cc := cX2_playBar) (maxL := 2) (ret := (some .boolean)) (own := RX2) (fun A => hgQi (dC, dI) u.1 [(m_h, .inr (2, [.int u.2.1, .int m_paid, .int u.2.2.1, .int u.2.2.2.1, .int m_hat, .int u.2.2.2.2.1, .ref m_wind])), (t_h, .inr (3, [.int t_players, .int t_bars, .ref t_prices, .ref t_winds, .ref t_kinds, .ref t_looks, .ref t_noises, .ref t_repeats])), (t_noises, .inl (cI, 8, .inl t_noises_v)), (t_kinds, .inl (cI, 6, .inl t_kinds_v)), (m_wind, .inl (cI, 6, .inl u.2.2.2.2.2)), (t_looks, .inl (cI, 6, .inl t_looks_v)), (t_repeats, .inl (cI, 8, .inl t_repeats_v))] A) rfl (by decide) rfl (Nat.le_of_ble_eq_true rfl) ?_
  intro p e s m below meth c ls A hsz hx hb hr hml hown hts hlk hnm hK hN hA hP hD hS hl
  subst hsz
  have w1 := hts (.fieldLink RX2 37 "HatGoesRound$Moment" "time" "I") (List.mem_of_getElem? (i := 1) rfl)
  have hinX2 : ∀ w ∈ u_ws RX2 TX2 7, w ∈ wsX2_playBar := fun _ h => List.mem_cons_of_mem _ (List.mem_append_left _ (List.mem_append_right _ h))
  have hl : lv_has ls 2 [(0, .ref m_h), (1, .ref t_h)] := hl
  unfold f_X2_playBar at hu
  refine lv_aload_n hx hb dX2_playBar_0 rfl (lv_at hl 0 rfl) ?_
  refine lv_aload_n hx hb dX2_playBar_1 rfl (lv_at hl 1 rfl) ?_
  obtain ⟨r1, er1, hu⟩ := lxb_o hu
  refine hg_ci (va_runV (As := [.ref t_h]) (rest := []) ⟨hx, hb, hml, hown, hts⟩ (c_X2_isSilent l dC dI cI cZ cM _ m_h t_h m_playing m_paid m_next m_taken m_hat m_time m_wind t_players t_bars t_prices t_winds t_kinds t_looks t_noises t_repeats r1 er1) (cwV 1 hts gX2_playBar_X2_isSilent rfl rfl rfl (by decide +kernel) ⟨Nat.le_of_ble_eq_true rfl, Nat.le_of_ble_eq_true rfl⟩) (hgPreV (C := RX2) (T := TX2) (N := 7) (ci := 2) (q0 := 0) hP hD hK hN [0, 1] rfl rfl rfl rfl) rfl rfl hl.1 rfl (lv_room (Nat.le_of_ble_eq_true rfl)) dX2_playBar_2 ⟨Nat.zero_le _, Nat.zero_le _⟩) hP hD hS hA (wr := [(t_noises, .inl (cI, 8, .inl t_noises_v)), (t_kinds, .inl (cI, 6, .inl t_kinds_v)), (m_wind, .inl (cI, 6, .inl m_wind_v)), (t_looks, .inl (cI, 6, .inl t_looks_v)), (t_repeats, .inl (cI, 8, .inl t_repeats_v))]) (wf := [(m_h, .inr (2, [.int m_playing, .int m_paid, .int m_next, .int m_taken, .int m_hat, .int m_time, .ref m_wind])), (t_h, .inr (3, [.int t_players, .int t_bars, .ref t_prices, .ref t_winds, .ref t_kinds, .ref t_looks, .ref t_noises, .ref t_repeats])), (t_noises, .inl (cI, 8, .inl t_noises_v)), (t_kinds, .inl (cI, 6, .inl t_kinds_v)), (m_wind, .inl (cI, 6, .inl m_wind_v)), (t_looks, .inl (cI, 6, .inl t_looks_v)), (t_repeats, .inl (cI, 8, .inl t_repeats_v))]) [0, 1] [2, 3, 4, 5, 6] [5, 6, 0, 1, 2, 3, 4] rfl rfl rfl (by decide) rfl rfl (fun H locs hP hD hS => ?_)
  refine lv_if_eq (tgt := 10) hx hb dX2_playBar_5 (by decide) (fun c_5 => ?_) (fun c_5 => ?_)
  · have hu := hu.trans (if_pos c_5)
    refine lv_aload_n hx hb dX2_playBar_10 rfl (lv_at hl 0 rfl) ?_
    refine lv_aload_n hx hb dX2_playBar_11 rfl (lv_at hl 1 rfl) ?_
    obtain ⟨r2, er2, hu⟩ := lxb_o hu
    refine hg_cv (va_runV (As := [.ref t_h]) (rest := []) ⟨hx, hb, hml, hown, hts⟩ (c_X2_spendWind l dC dI cI cZ cM _ m_h t_h m_playing m_paid m_next m_taken m_hat m_time m_wind t_players t_bars t_prices t_winds t_kinds t_looks t_noises t_repeats t_noises_v t_kinds_v m_wind_v r2 er2) (cwV 1 hts gX2_playBar_X2_spendWind rfl rfl rfl (by decide +kernel) ⟨Nat.le_of_ble_eq_true rfl, Nat.le_of_ble_eq_true rfl⟩) (hgPreV (C := RX2) (T := TX2) (N := 7) (ci := 2) (q0 := 0) hP hD hK hN [0, 1, 2, 3, 4] rfl rfl rfl rfl) rfl rfl hl.1 rfl (lv_room (Nat.le_of_ble_eq_true rfl)) dX2_playBar_12 ⟨Nat.zero_le _, Nat.zero_le _⟩) hP hD hS hA (wr := [(t_looks, .inl (cI, 6, .inl t_looks_v)), (t_repeats, .inl (cI, 8, .inl t_repeats_v))]) (wf := [(m_h, .inr (2, [.int r2.1, .int m_paid, .int m_next, .int m_taken, .int m_hat, .int m_time, .ref m_wind])), (t_h, .inr (3, [.int t_players, .int t_bars, .ref t_prices, .ref t_winds, .ref t_kinds, .ref t_looks, .ref t_noises, .ref t_repeats])), (t_noises, .inl (cI, 8, .inl t_noises_v)), (t_kinds, .inl (cI, 6, .inl t_kinds_v)), (m_wind, .inl (cI, 6, .inl r2.2)), (t_looks, .inl (cI, 6, .inl t_looks_v)), (t_repeats, .inl (cI, 8, .inl t_repeats_v))]) [0, 1, 2, 3, 4] [5, 6] [2, 3, 4, 5, 6, 0, 1] rfl rfl rfl (by decide) rfl rfl (fun H locs hP hD hS => ?_)
    refine lv_aload_n hx hb dX2_playBar_15 rfl (lv_at hl 0 rfl) ?_
    refine lv_aload_n hx hb dX2_playBar_16 rfl (lv_at hl 1 rfl) ?_
    obtain ⟨r3, er3, hu⟩ := lxb_o hu
    refine hg_cv (va_runV (As := [.ref t_h]) (rest := []) ⟨hx, hb, hml, hown, hts⟩ (c_X2_tireLeaners l dC dI cI cZ cM _ m_h t_h r2.1 m_paid m_next m_taken m_hat m_time m_wind t_players t_bars t_prices t_winds t_kinds t_looks t_noises t_repeats t_looks_v t_kinds_v r3 er3) (cwV 1 hts gX2_playBar_X2_tireLeaners rfl rfl rfl (by decide +kernel) ⟨Nat.le_of_ble_eq_true rfl, Nat.le_of_ble_eq_true rfl⟩) (hgPreV (C := RX2) (T := TX2) (N := 7) (ci := 2) (q0 := 0) hP hD hK hN [0, 1, 5, 3] rfl rfl rfl rfl) rfl rfl hl.1 rfl (lv_room (Nat.le_of_ble_eq_true rfl)) dX2_playBar_17 ⟨Nat.zero_le _, Nat.zero_le _⟩) hP hD hS hA (wr := [(t_noises, .inl (cI, 8, .inl t_noises_v)), (m_wind, .inl (cI, 6, .inl r2.2)), (t_repeats, .inl (cI, 8, .inl t_repeats_v))]) (wf := [(m_h, .inr (2, [.int r3, .int m_paid, .int m_next, .int m_taken, .int m_hat, .int m_time, .ref m_wind])), (t_h, .inr (3, [.int t_players, .int t_bars, .ref t_prices, .ref t_winds, .ref t_kinds, .ref t_looks, .ref t_noises, .ref t_repeats])), (t_noises, .inl (cI, 8, .inl t_noises_v)), (t_kinds, .inl (cI, 6, .inl t_kinds_v)), (m_wind, .inl (cI, 6, .inl r2.2)), (t_looks, .inl (cI, 6, .inl t_looks_v)), (t_repeats, .inl (cI, 8, .inl t_repeats_v))]) [0, 1, 5, 3] [2, 4, 6] [3, 4, 0, 6, 1, 5, 2] rfl rfl rfl (by decide) rfl rfl (fun H locs hP hD hS => ?_)
    refine lv_aload_n hx hb dX2_playBar_20 rfl (lv_at hl 0 rfl) ?_
    refine lv_aload_n hx hb dX2_playBar_21 rfl (lv_at hl 1 rfl) ?_
    obtain ⟨r4, er4, hu⟩ := lxb_o hu
    refine hg_cv (va_runV (As := [.ref t_h]) (rest := []) ⟨hx, hb, hml, hown, hts⟩ (c_X2_tireLonelyBasses l dC dI cI cZ cM _ m_h t_h r3 m_paid m_next m_taken m_hat m_time m_wind t_players t_bars t_prices t_winds t_kinds t_looks t_noises t_repeats t_kinds_v r4 er4) (cwV 1 hts gX2_playBar_X2_tireLonelyBasses rfl rfl rfl (by decide +kernel) ⟨Nat.le_of_ble_eq_true rfl, Nat.le_of_ble_eq_true rfl⟩) (hgPreV (C := RX2) (T := TX2) (N := 7) (ci := 2) (q0 := 0) hP hD hK hN [0, 1, 3] rfl rfl rfl rfl) rfl rfl hl.1 rfl (lv_room (Nat.le_of_ble_eq_true rfl)) dX2_playBar_22 ⟨Nat.zero_le _, Nat.zero_le _⟩) hP hD hS hA (wr := [(t_noises, .inl (cI, 8, .inl t_noises_v)), (m_wind, .inl (cI, 6, .inl r2.2)), (t_looks, .inl (cI, 6, .inl t_looks_v)), (t_repeats, .inl (cI, 8, .inl t_repeats_v))]) (wf := [(m_h, .inr (2, [.int r4, .int m_paid, .int m_next, .int m_taken, .int m_hat, .int m_time, .ref m_wind])), (t_h, .inr (3, [.int t_players, .int t_bars, .ref t_prices, .ref t_winds, .ref t_kinds, .ref t_looks, .ref t_noises, .ref t_repeats])), (t_noises, .inl (cI, 8, .inl t_noises_v)), (t_kinds, .inl (cI, 6, .inl t_kinds_v)), (m_wind, .inl (cI, 6, .inl r2.2)), (t_looks, .inl (cI, 6, .inl t_looks_v)), (t_repeats, .inl (cI, 8, .inl t_repeats_v))]) [0, 1, 3] [2, 4, 5, 6] [4, 5, 0, 6, 1, 2, 3] rfl rfl rfl (by decide) rfl rfl (fun H locs hP hD hS => ?_)
    refine lv_aload_n hx hb dX2_playBar_25 rfl (lv_at hl 0 rfl) ?_
    refine lv_aload_n hx hb dX2_playBar_26 rfl (lv_at hl 1 rfl) ?_
    obtain ⟨r5, er5, hu⟩ := lxb_o hu
    refine hg_cv (va_runV (As := [.ref t_h]) (rest := []) ⟨hx, hb, hml, hown, hts⟩ (c_X2_wakeDrums l dC dI cI cZ cM _ m_h t_h r4 m_paid m_next m_taken m_hat m_time m_wind t_players t_bars t_prices t_winds t_kinds t_looks t_noises t_repeats t_looks_v t_kinds_v r2.2 r5 er5) (cwV 1 hts gX2_playBar_X2_wakeDrums rfl rfl rfl (by decide +kernel) ⟨Nat.le_of_ble_eq_true rfl, Nat.le_of_ble_eq_true rfl⟩) (hgPreV (C := RX2) (T := TX2) (N := 7) (ci := 2) (q0 := 0) hP hD hK hN [0, 1, 5, 3, 4] rfl rfl rfl rfl) rfl rfl hl.1 rfl (lv_room (Nat.le_of_ble_eq_true rfl)) dX2_playBar_27 ⟨Nat.zero_le _, Nat.zero_le _⟩) hP hD hS hA (wr := [(t_noises, .inl (cI, 8, .inl t_noises_v)), (t_repeats, .inl (cI, 8, .inl t_repeats_v))]) (wf := [(m_h, .inr (2, [.int r5.1, .int m_paid, .int m_next, .int m_taken, .int m_hat, .int m_time, .ref m_wind])), (t_h, .inr (3, [.int t_players, .int t_bars, .ref t_prices, .ref t_winds, .ref t_kinds, .ref t_looks, .ref t_noises, .ref t_repeats])), (t_noises, .inl (cI, 8, .inl t_noises_v)), (t_kinds, .inl (cI, 6, .inl t_kinds_v)), (m_wind, .inl (cI, 6, .inl r5.2)), (t_looks, .inl (cI, 6, .inl t_looks_v)), (t_repeats, .inl (cI, 8, .inl t_repeats_v))]) [0, 1, 5, 3, 4] [2, 6] [2, 3, 0, 5, 6, 4, 1] rfl rfl rfl (by decide) rfl rfl (fun H locs hP hD hS => ?_)
    refine lv_aload_n hx hb dX2_playBar_30 rfl (lv_at hl 0 rfl) ?_
    refine lv_aload_n hx hb dX2_playBar_31 rfl (lv_at hl 1 rfl) ?_
    obtain ⟨r6, er6, hu⟩ := lxb_o hu
    refine hg_cv (va_runV (As := [.ref t_h]) (rest := []) ⟨hx, hb, hml, hown, hts⟩ (c_X2_turnPage l dC dI cI cZ cM _ m_h t_h r5.1 m_paid m_next m_taken m_hat m_time m_wind t_players t_bars t_prices t_winds t_kinds t_looks t_noises t_repeats t_repeats_v r6 er6) (cwV 1 hts gX2_playBar_X2_turnPage rfl rfl rfl (by decide +kernel) ⟨Nat.le_of_ble_eq_true rfl, Nat.le_of_ble_eq_true rfl⟩) (hgPreV (C := RX2) (T := TX2) (N := 7) (ci := 2) (q0 := 0) hP hD hK hN [0, 1, 6] rfl rfl rfl rfl) rfl rfl hl.1 rfl (lv_room (Nat.le_of_ble_eq_true rfl)) dX2_playBar_32 ⟨Nat.zero_le _, Nat.zero_le _⟩) hP hD hS hA (wr := [(t_noises, .inl (cI, 8, .inl t_noises_v)), (t_kinds, .inl (cI, 6, .inl t_kinds_v)), (m_wind, .inl (cI, 6, .inl r5.2)), (t_looks, .inl (cI, 6, .inl t_looks_v))]) (wf := [(m_h, .inr (2, [.int r5.1, .int m_paid, .int r6.1, .int r6.2, .int m_hat, .int m_time, .ref m_wind])), (t_h, .inr (3, [.int t_players, .int t_bars, .ref t_prices, .ref t_winds, .ref t_kinds, .ref t_looks, .ref t_noises, .ref t_repeats])), (t_noises, .inl (cI, 8, .inl t_noises_v)), (t_kinds, .inl (cI, 6, .inl t_kinds_v)), (m_wind, .inl (cI, 6, .inl r5.2)), (t_looks, .inl (cI, 6, .inl t_looks_v)), (t_repeats, .inl (cI, 8, .inl t_repeats_v))]) [0, 1, 6] [2, 3, 4, 5] [4, 5, 0, 1, 2, 3, 6] rfl rfl rfl (by decide) rfl rfl (fun H locs hP hD hS => ?_)
    refine lv_aload_n hx hb dX2_playBar_35 rfl (lv_at hl 0 rfl) ?_
    refine lv_dup hx hb dX2_playBar_36 rfl ?_
    refine va_get (D := (dC, dI)) (ci := 2) (v := .int m_time) (C := RX2) (T := TX2) (N := 7) hx hb hts hinX2 hown hK hP 0 rfl rfl 5 (by decide) w1 (fun _ h9 => h9) rfl dX2_playBar_37 ?_
    refine lv_iconst (v := 1) hx hb dX2_playBar_40 (by decide) ?_
    refine lv_iadd hx hb dX2_playBar_41 ?_
    refine va_put (D := (dC, dI)) (ci := 2) (v := .int (m_time + 1)) (ty := .int) (C := RX2) (T := TX2) (N := 7) hx hb hts hinX2 tyX2 tyX2_ok nmX2 hown hK hP hD hS 0 rfl rfl 5 (by decide) w1 (fun _ h9 => h9) rfl (by decide +kernel) rfl rfl (Nat.le_of_ble_eq_true rfl) dX2_playBar_42 (fun H locs hP hD hS => ?_)
    have hP : va_P (dC, dI) vwCl [(m_h, .inr (2, [.int r5.1, .int m_paid, .int r6.1, .int r6.2, .int m_hat, .int (m_time + 1), .ref m_wind])), (t_h, .inr (3, [.int t_players, .int t_bars, .ref t_prices, .ref t_winds, .ref t_kinds, .ref t_looks, .ref t_noises, .ref t_repeats])), (t_noises, .inl (cI, 8, .inl t_noises_v)), (t_kinds, .inl (cI, 6, .inl t_kinds_v)), (m_wind, .inl (cI, 6, .inl r5.2)), (t_looks, .inl (cI, 6, .inl t_looks_v)), (t_repeats, .inl (cI, 8, .inl t_repeats_v))] H := hP
    have hD : va_D A [(m_h, .inr (2, [.int r5.1, .int m_paid, .int r6.1, .int r6.2, .int m_hat, .int (m_time + 1), .ref m_wind])), (t_h, .inr (3, [.int t_players, .int t_bars, .ref t_prices, .ref t_winds, .ref t_kinds, .ref t_looks, .ref t_noises, .ref t_repeats])), (t_noises, .inl (cI, 8, .inl t_noises_v)), (t_kinds, .inl (cI, 6, .inl t_kinds_v)), (m_wind, .inl (cI, 6, .inl r5.2)), (t_looks, .inl (cI, 6, .inl t_looks_v)), (t_repeats, .inl (cI, 8, .inl t_repeats_v))] := hD
    refine lv_iconst (v := 1) hx hb dX2_playBar_45 (by decide) ?_
    subst hu
    exact hg_rz hx hb hr hlk (by decide) rfl hP hD hS dX2_playBar_46
  · have hu := hu.trans (if_neg c_5)
    refine lv_iconst (v := 0) hx hb dX2_playBar_8 (by decide) ?_
    subst hu
    exact hg_rz hx hb hr hlk (by decide) rfl hP hD hS dX2_playBar_9

set_option maxHeartbeats 4000000 in
set_option maxRecDepth 100000 in
theorem c_X2_playNoise (l : Launch) (dC : Nat → ClassId) (dI : Nat → Nat → Nat) (cI cZ cM : ClassId) (sz : Nat) (m_h : Nat) (t_h : Nat) (x1 : Int32) (m_playing : Int32) (m_paid : Int32) (m_next : Int32) (m_taken : Int32) (m_hat : Int32) (m_time : Int32) (m_wind : Nat) (t_players : Int32) (t_bars : Int32) (t_prices : Nat) (t_winds : Nat) (t_kinds : Nat) (t_looks : Nat) (t_noises : Nat) (t_repeats : Nat) (t_noises_v : Nat → Int32) (t_kinds_v : Nat → Int32) (m_wind_v : Nat → Int32) (t_looks_v : Nat → Int32) (t_repeats_v : Nat → Int32) (u : Int32 × Int32 × Int32 × Int32 × Int32 × (Nat → Int32)) (hu : u = f_X2_playNoise x1 m_playing m_paid m_next m_taken m_time t_players t_bars t_noises_v t_kinds_v m_wind_v t_looks_v t_repeats_v) : Met l yX2_playNoise wsX2_playNoise { frames := 4, cells := 0, slots := 0, locals := 88 } (hgPc [.ref m_h, .ref t_h, .int x1] (dC, dI) cI cZ cM [(m_h, .inr (2, [.int m_playing, .int m_paid, .int m_next, .int m_taken, .int m_hat, .int m_time, .ref m_wind])), (t_h, .inr (3, [.int t_players, .int t_bars, .ref t_prices, .ref t_winds, .ref t_kinds, .ref t_looks, .ref t_noises, .ref t_repeats])), (t_noises, .inl (cI, 8, .inl t_noises_v)), (t_kinds, .inl (cI, 6, .inl t_kinds_v)), (m_wind, .inl (cI, 6, .inl m_wind_v)), (t_looks, .inl (cI, 6, .inl t_looks_v)), (t_repeats, .inl (cI, 8, .inl t_repeats_v))] sz) (hgQi (dC, dI) u.1 [(m_h, .inr (2, [.int u.2.1, .int m_paid, .int u.2.2.1, .int u.2.2.2.1, .int m_hat, .int u.2.2.2.2.1, .ref m_wind])), (t_h, .inr (3, [.int t_players, .int t_bars, .ref t_prices, .ref t_winds, .ref t_kinds, .ref t_looks, .ref t_noises, .ref t_repeats])), (t_noises, .inl (cI, 8, .inl t_noises_v)), (t_kinds, .inl (cI, 6, .inl t_kinds_v)), (m_wind, .inl (cI, 6, .inl u.2.2.2.2.2)), (t_looks, .inl (cI, 6, .inl t_looks_v)), (t_repeats, .inl (cI, 8, .inl t_repeats_v))] (va_A [(m_h, .inr (2, [.int m_playing, .int m_paid, .int m_next, .int m_taken, .int m_hat, .int m_time, .ref m_wind])), (t_h, .inr (3, [.int t_players, .int t_bars, .ref t_prices, .ref t_winds, .ref t_kinds, .ref t_looks, .ref t_noises, .ref t_repeats])), (t_noises, .inl (cI, 8, .inl t_noises_v)), (t_kinds, .inl (cI, 6, .inl t_kinds_v)), (m_wind, .inl (cI, 6, .inl m_wind_v)), (t_looks, .inl (cI, 6, .inl t_looks_v)), (t_repeats, .inl (cI, 8, .inl t_repeats_v))] sz)) 0 0 (va_A [(m_h, .inr (2, [.int m_playing, .int m_paid, .int m_next, .int m_taken, .int m_hat, .int m_time, .ref m_wind])), (t_h, .inr (3, [.int t_players, .int t_bars, .ref t_prices, .ref t_winds, .ref t_kinds, .ref t_looks, .ref t_noises, .ref t_repeats])), (t_noises, .inl (cI, 8, .inl t_noises_v)), (t_kinds, .inl (cI, 6, .inl t_kinds_v)), (m_wind, .inl (cI, 6, .inl m_wind_v)), (t_looks, .inl (cI, 6, .inl t_looks_v)), (t_repeats, .inl (cI, 8, .inl t_repeats_v))] sz) := by
  refine hg_ofW (cc := cX2_playNoise) (maxL := 5) (ret := (some .int)) (own := RX2) (fun A => hgQi (dC, dI) u.1 [(m_h, .inr (2, [.int u.2.1, .int m_paid, .int u.2.2.1, .int u.2.2.2.1, .int m_hat, .int u.2.2.2.2.1, .ref m_wind])), (t_h, .inr (3, [.int t_players, .int t_bars, .ref t_prices, .ref t_winds, .ref t_kinds, .ref t_looks, .ref t_noises, .ref t_repeats])), (t_noises, .inl (cI, 8, .inl t_noises_v)), (t_kinds, .inl (cI, 6, .inl t_kinds_v)), (m_wind, .inl (cI, 6, .inl u.2.2.2.2.2)), (t_looks, .inl (cI, 6, .inl t_looks_v)), (t_repeats, .inl (cI, 8, .inl t_repeats_v))] A) rfl (by decide) rfl (Nat.le_of_ble_eq_true rfl) ?_
  intro p e s m below meth c ls A hsz hx hb hr hml hown hts hlk hnm hK hN hA hP hD hS hl
  subst hsz
  have w1 := hts (.fieldLink RX2 90 "HatGoesRound$Told" "noises" "[I") (List.mem_of_getElem? (i := 1) rfl)
  have hinX3 : ∀ w ∈ u_ws RX3 TX3 8, w ∈ wsX2_playNoise := fun _ h => List.mem_cons_of_mem _ (List.mem_append_left _ (List.mem_append_right _ h))
  have w2 := hts (.fieldLink RX2 28 "HatGoesRound$Moment" "next" "I") (List.mem_of_getElem? (i := 2) rfl)
  have hinX2 : ∀ w ∈ u_ws RX2 TX2 7, w ∈ wsX2_playNoise := fun _ h => List.mem_cons_of_mem _ (List.mem_append_right _ h)
  have w11 := hts (.initialized RX4) (List.mem_of_getElem? (i := 11) rfl)
  have w10 := hts (.static yX4_at) (List.mem_of_getElem? (i := 10) rfl)
  have hl : lv_has ls 5 [(0, .ref m_h), (1, .ref t_h), (2, .int x1)] := hl
  unfold f_X2_playNoise at hu
  refine lv_iconst (v := 0) hx hb dX2_playNoise_0 (by decide) ?_
  refine lv_istore_n (lv' := [(3, .int 0), (0, .ref m_h), (1, .ref t_h), (2, .int x1)]) hx hb dX2_playNoise_1 rfl hl (by decide) rfl (fun ls hl => ?_)
  refine lv_iconst (v := 0) hx hb dX2_playNoise_2 (by decide) ?_
  refine lv_istore (lv' := [(4, .int 0), (3, .int 0), (0, .ref m_h), (1, .ref t_h), (2, .int x1)]) hx hb dX2_playNoise_3 hl (by decide) rfl (fun ls hl => ?_)
  refine hg_loopS (T := Int32 × Int32 × Int32 × Int32 × Int32 × (Nat → Int32)) (N := (itn 0 x1)) (fun v5 => [(m_h, .inr (2, [.int v5.2.1, .int m_paid, .int v5.2.2.1, .int v5.2.2.2.1, .int m_hat, .int v5.2.2.2.2.1, .ref m_wind])), (t_h, .inr (3, [.int t_players, .int t_bars, .ref t_prices, .ref t_winds, .ref t_kinds, .ref t_looks, .ref t_noises, .ref t_repeats])), (t_noises, .inl (cI, 8, .inl t_noises_v)), (t_kinds, .inl (cI, 6, .inl t_kinds_v)), (m_wind, .inl (cI, 6, .inl v5.2.2.2.2.2)), (t_looks, .inl (cI, 6, .inl t_looks_v)), (t_repeats, .inl (cI, 8, .inl t_repeats_v))]) (fun k5 v5 => [(0, .ref m_h), (1, .ref t_h), (2, .int x1), (3, .int v5.1), (4, .int (nI k5))]) (fun n5 k5 v5 => l_X2_playNoise_5 m_paid t_players t_bars t_noises_v t_kinds_v t_looks_v t_repeats_v n5 k5 v5) (0, m_playing, m_next, m_taken, m_time, m_wind_v) hu ?_ ?_ hP hD hS (lv_sub hl [2, 3, 4, 1, 0] rfl)
  · intro v5 hu H locs ls hP hD hS hl
    rw [l_X2_playNoise_5] at hu
    have hP : va_P (dC, dI) vwCl [(m_h, .inr (2, [.int v5.2.1, .int m_paid, .int v5.2.2.1, .int v5.2.2.2.1, .int m_hat, .int v5.2.2.2.2.1, .ref m_wind])), (t_h, .inr (3, [.int t_players, .int t_bars, .ref t_prices, .ref t_winds, .ref t_kinds, .ref t_looks, .ref t_noises, .ref t_repeats])), (t_noises, .inl (cI, 8, .inl t_noises_v)), (t_kinds, .inl (cI, 6, .inl t_kinds_v)), (m_wind, .inl (cI, 6, .inl v5.2.2.2.2.2)), (t_looks, .inl (cI, 6, .inl t_looks_v)), (t_repeats, .inl (cI, 8, .inl t_repeats_v))] H := hP
    have hD : va_D A [(m_h, .inr (2, [.int v5.2.1, .int m_paid, .int v5.2.2.1, .int v5.2.2.2.1, .int m_hat, .int v5.2.2.2.2.1, .ref m_wind])), (t_h, .inr (3, [.int t_players, .int t_bars, .ref t_prices, .ref t_winds, .ref t_kinds, .ref t_looks, .ref t_noises, .ref t_repeats])), (t_noises, .inl (cI, 8, .inl t_noises_v)), (t_kinds, .inl (cI, 6, .inl t_kinds_v)), (m_wind, .inl (cI, 6, .inl v5.2.2.2.2.2)), (t_looks, .inl (cI, 6, .inl t_looks_v)), (t_repeats, .inl (cI, 8, .inl t_repeats_v))] := hD
    have hl : lv_has ls 5 [(0, .ref m_h), (1, .ref t_h), (2, .int x1), (3, .int v5.1), (4, .int (nI (itn 0 x1)))] := hl
    refine lv_iload hx hb dX2_playNoise_5 (lv_at hl 4 rfl) ?_
    refine lv_iload_n hx hb dX2_playNoise_7 rfl (lv_at hl 2 rfl) ?_
    refine lv_icmp_ge (tgt := 50) hx hb dX2_playNoise_8 (by decide) (fun c_8 => ?_) (fun c_8 => absurd hg_lo0 c_8)
    refine lv_iload_n hx hb dX2_playNoise_50 rfl (lv_at hl 3 rfl) ?_
    subst hu
    exact hg_ri hx hb hr hlk rfl hP hD hS dX2_playNoise_51
  · intro n5 k5 hk0 v5 hu ih H locs ls hP hD hS hl
    have hk : k5 < (itn 0 x1) := by omega
    rw [l_X2_playNoise_5] at hu
    have hP : va_P (dC, dI) vwCl [(m_h, .inr (2, [.int v5.2.1, .int m_paid, .int v5.2.2.1, .int v5.2.2.2.1, .int m_hat, .int v5.2.2.2.2.1, .ref m_wind])), (t_h, .inr (3, [.int t_players, .int t_bars, .ref t_prices, .ref t_winds, .ref t_kinds, .ref t_looks, .ref t_noises, .ref t_repeats])), (t_noises, .inl (cI, 8, .inl t_noises_v)), (t_kinds, .inl (cI, 6, .inl t_kinds_v)), (m_wind, .inl (cI, 6, .inl v5.2.2.2.2.2)), (t_looks, .inl (cI, 6, .inl t_looks_v)), (t_repeats, .inl (cI, 8, .inl t_repeats_v))] H := hP
    have hD : va_D A [(m_h, .inr (2, [.int v5.2.1, .int m_paid, .int v5.2.2.1, .int v5.2.2.2.1, .int m_hat, .int v5.2.2.2.2.1, .ref m_wind])), (t_h, .inr (3, [.int t_players, .int t_bars, .ref t_prices, .ref t_winds, .ref t_kinds, .ref t_looks, .ref t_noises, .ref t_repeats])), (t_noises, .inl (cI, 8, .inl t_noises_v)), (t_kinds, .inl (cI, 6, .inl t_kinds_v)), (m_wind, .inl (cI, 6, .inl v5.2.2.2.2.2)), (t_looks, .inl (cI, 6, .inl t_looks_v)), (t_repeats, .inl (cI, 8, .inl t_repeats_v))] := hD
    have hl : lv_has ls 5 [(0, .ref m_h), (1, .ref t_h), (2, .int x1), (3, .int v5.1), (4, .int (nI k5))] := hl
    refine lv_iload hx hb dX2_playNoise_5 (lv_at hl 4 rfl) ?_
    refine lv_iload_n hx hb dX2_playNoise_7 rfl (lv_at hl 2 rfl) ?_
    refine lv_icmp_ge (tgt := 50) hx hb dX2_playNoise_8 (by decide) (fun c_8 => absurd c_8 (hg_lo1 hk)) (fun c_8 => ?_)
    refine lv_aload_n hx hb dX2_playNoise_11 rfl (lv_at hl 0 rfl) ?_
    refine lv_aload_n hx hb dX2_playNoise_12 rfl (lv_at hl 1 rfl) ?_
    obtain ⟨r1, er1, hu⟩ := lxb_o hu
    refine hg_ci (va_runV (As := [.ref t_h]) (rest := []) ⟨hx, hb, hml, hown, hts⟩ (c_X2_isSilent l dC dI cI cZ cM _ m_h t_h v5.2.1 m_paid v5.2.2.1 v5.2.2.2.1 m_hat v5.2.2.2.2.1 m_wind t_players t_bars t_prices t_winds t_kinds t_looks t_noises t_repeats r1 er1) (cwV 1 hts gX2_playNoise_X2_isSilent rfl rfl rfl (by decide +kernel) ⟨Nat.le_of_ble_eq_true rfl, Nat.le_of_ble_eq_true rfl⟩) (hgPreV (C := RX2) (T := TX2) (N := 7) (ci := 2) (q0 := 0) hP hD hK hN [0, 1] rfl rfl rfl rfl) rfl rfl hl.1 rfl (lv_room (Nat.le_of_ble_eq_true rfl)) dX2_playNoise_13 ⟨Nat.zero_le _, Nat.zero_le _⟩) hP hD hS hA (wr := [(t_noises, .inl (cI, 8, .inl t_noises_v)), (t_kinds, .inl (cI, 6, .inl t_kinds_v)), (m_wind, .inl (cI, 6, .inl v5.2.2.2.2.2)), (t_looks, .inl (cI, 6, .inl t_looks_v)), (t_repeats, .inl (cI, 8, .inl t_repeats_v))]) (wf := [(m_h, .inr (2, [.int v5.2.1, .int m_paid, .int v5.2.2.1, .int v5.2.2.2.1, .int m_hat, .int v5.2.2.2.2.1, .ref m_wind])), (t_h, .inr (3, [.int t_players, .int t_bars, .ref t_prices, .ref t_winds, .ref t_kinds, .ref t_looks, .ref t_noises, .ref t_repeats])), (t_noises, .inl (cI, 8, .inl t_noises_v)), (t_kinds, .inl (cI, 6, .inl t_kinds_v)), (m_wind, .inl (cI, 6, .inl v5.2.2.2.2.2)), (t_looks, .inl (cI, 6, .inl t_looks_v)), (t_repeats, .inl (cI, 8, .inl t_repeats_v))]) [0, 1] [2, 3, 4, 5, 6] [5, 6, 0, 1, 2, 3, 4] rfl rfl rfl (by decide) rfl rfl (fun H locs hP hD hS => ?_)
    refine lv_if_ne (tgt := 50) hx hb dX2_playNoise_16 (by decide) (fun c_16 => ?_) (fun c_16 => ?_)
    · have hu := hu.trans (if_neg c_16)
      refine lv_iload_n hx hb dX2_playNoise_50 rfl (lv_at hl 3 rfl) ?_
      subst hu
      exact hg_ri hx hb hr hlk rfl hP hD hS dX2_playNoise_51
    · have hu := hu.trans (if_pos c_16)
      refine lv_iload_n hx hb dX2_playNoise_19 rfl (lv_at hl 3 rfl) ?_
      refine lv_aload_n hx hb dX2_playNoise_20 rfl (lv_at hl 1 rfl) ?_
      refine va_get (D := (dC, dI)) (ci := 3) (v := .ref t_noises) (C := RX3) (T := TX3) (N := 8) hx hb hts hinX3 hown hK hP 1 rfl rfl 6 (by decide) w1 (fun _ h9 => h9) rfl dX2_playNoise_21 ?_
      refine lv_aload_n hx hb dX2_playNoise_24 rfl (lv_at hl 0 rfl) ?_
      refine va_get (D := (dC, dI)) (ci := 2) (v := .int v5.2.2.1) (C := RX2) (T := TX2) (N := 7) hx hb hts hinX2 hown hK hP 0 rfl rfl 2 (by decide) w2 (fun _ h9 => h9) rfl dX2_playNoise_25 ?_
      obtain ⟨r2, er2, hu⟩ := lxb_o hu
      refine hg_ci (va_runSN (As := [.ref t_noises, .int v5.2.2.1]) (rest := [.int v5.1]) ⟨hx, hb, hml, hown, hts⟩ (c_X4_at l dC dI cI cZ cM _ t_noises v5.2.2.1 8 t_noises_v (by decide) r2 er2) ⟨va_cnB 2 hts gX2_playNoise_X4_at_n47 rfl rfl rfl hN.2.2.1 w11 (by decide +kernel) ⟨Nat.le_of_ble_eq_true rfl, Nat.le_of_ble_eq_true rfl⟩, w10, trivial⟩ (hgPreS hP hD hK hN [2] rfl rfl) rfl rfl hl.1 rfl (lv_room (Nat.le_of_ble_eq_true rfl)) dX2_playNoise_28 ⟨Nat.zero_le _, Nat.zero_le _⟩) hP hD hS hA (wr := [(m_h, .inr (2, [.int v5.2.1, .int m_paid, .int v5.2.2.1, .int v5.2.2.2.1, .int m_hat, .int v5.2.2.2.2.1, .ref m_wind])), (t_h, .inr (3, [.int t_players, .int t_bars, .ref t_prices, .ref t_winds, .ref t_kinds, .ref t_looks, .ref t_noises, .ref t_repeats])), (t_kinds, .inl (cI, 6, .inl t_kinds_v)), (m_wind, .inl (cI, 6, .inl v5.2.2.2.2.2)), (t_looks, .inl (cI, 6, .inl t_looks_v)), (t_repeats, .inl (cI, 8, .inl t_repeats_v))]) (wf := [(m_h, .inr (2, [.int v5.2.1, .int m_paid, .int v5.2.2.1, .int v5.2.2.2.1, .int m_hat, .int v5.2.2.2.2.1, .ref m_wind])), (t_h, .inr (3, [.int t_players, .int t_bars, .ref t_prices, .ref t_winds, .ref t_kinds, .ref t_looks, .ref t_noises, .ref t_repeats])), (t_noises, .inl (cI, 8, .inl t_noises_v)), (t_kinds, .inl (cI, 6, .inl t_kinds_v)), (m_wind, .inl (cI, 6, .inl v5.2.2.2.2.2)), (t_looks, .inl (cI, 6, .inl t_looks_v)), (t_repeats, .inl (cI, 8, .inl t_repeats_v))]) [2] [0, 1, 3, 4, 5, 6] [0, 1, 6, 2, 3, 4, 5] rfl rfl rfl (by decide) rfl rfl (fun H locs hP hD hS => ?_)
      refine lv_aload_n hx hb dX2_playNoise_31 rfl (lv_at hl 0 rfl) ?_
      obtain ⟨r3, er3, hu⟩ := lxb_o hu
      refine hg_ci (va_runV (As := []) (rest := [.int r2, .int v5.1]) ⟨hx, hb, hml, hown, hts⟩ (c_X2_howManyPlay l dC dI cI cZ cM _ m_h v5.2.1 m_paid v5.2.2.1 v5.2.2.2.1 m_hat v5.2.2.2.2.1 m_wind r3 er3) (cwV 0 hts gX2_playNoise_X2_howManyPlay rfl rfl rfl (by decide +kernel) ⟨Nat.le_of_ble_eq_true rfl, Nat.le_of_ble_eq_true rfl⟩) (hgPreV (C := RX2) (T := TX2) (N := 7) (ci := 2) (q0 := 0) hP hD hK hN [0] rfl rfl rfl rfl) rfl rfl hl.1 rfl (lv_room (Nat.le_of_ble_eq_true rfl)) dX2_playNoise_32 ⟨Nat.zero_le _, Nat.zero_le _⟩) hP hD hS hA (wr := [(t_h, .inr (3, [.int t_players, .int t_bars, .ref t_prices, .ref t_winds, .ref t_kinds, .ref t_looks, .ref t_noises, .ref t_repeats])), (t_noises, .inl (cI, 8, .inl t_noises_v)), (t_kinds, .inl (cI, 6, .inl t_kinds_v)), (m_wind, .inl (cI, 6, .inl v5.2.2.2.2.2)), (t_looks, .inl (cI, 6, .inl t_looks_v)), (t_repeats, .inl (cI, 8, .inl t_repeats_v))]) (wf := [(m_h, .inr (2, [.int v5.2.1, .int m_paid, .int v5.2.2.1, .int v5.2.2.2.1, .int m_hat, .int v5.2.2.2.2.1, .ref m_wind])), (t_h, .inr (3, [.int t_players, .int t_bars, .ref t_prices, .ref t_winds, .ref t_kinds, .ref t_looks, .ref t_noises, .ref t_repeats])), (t_noises, .inl (cI, 8, .inl t_noises_v)), (t_kinds, .inl (cI, 6, .inl t_kinds_v)), (m_wind, .inl (cI, 6, .inl v5.2.2.2.2.2)), (t_looks, .inl (cI, 6, .inl t_looks_v)), (t_repeats, .inl (cI, 8, .inl t_repeats_v))]) [0] [1, 2, 3, 4, 5, 6] [6, 0, 1, 2, 3, 4, 5] rfl rfl rfl (by decide) rfl rfl (fun H locs hP hD hS => ?_)
      refine lv_imul hx hb dX2_playNoise_35 ?_
      refine lv_iadd hx hb dX2_playNoise_36 ?_
      refine lv_istore_n (lv' := [(3, .int (v5.1 + (r2 * r3))), (0, .ref m_h), (1, .ref t_h), (2, .int x1), (4, .int (nI k5))]) hx hb dX2_playNoise_37 rfl hl (by decide) rfl (fun ls hl => ?_)
      refine lv_aload_n hx hb dX2_playNoise_38 rfl (lv_at hl 1 rfl) ?_
      refine lv_aload_n hx hb dX2_playNoise_39 rfl (lv_at hl 2 rfl) ?_
      obtain ⟨r4, er4, hu⟩ := lxb_o hu
      refine hg_ci (va_runV (As := [.ref t_h]) (rest := []) ⟨hx, hb, hml, hown, hts⟩ (c_X2_playBar l dC dI cI cZ cM _ m_h t_h v5.2.1 m_paid v5.2.2.1 v5.2.2.2.1 m_hat v5.2.2.2.2.1 m_wind t_players t_bars t_prices t_winds t_kinds t_looks t_noises t_repeats t_noises_v t_kinds_v v5.2.2.2.2.2 t_looks_v t_repeats_v r4 er4) (cwV 1 hts gX2_playNoise_X2_playBar rfl rfl rfl (by decide +kernel) ⟨Nat.le_of_ble_eq_true rfl, Nat.le_of_ble_eq_true rfl⟩) (hgPreV (C := RX2) (T := TX2) (N := 7) (ci := 2) (q0 := 0) hP hD hK hN [0, 1, 2, 3, 4, 5, 6] rfl rfl rfl rfl) rfl rfl hl.1 rfl (lv_room (Nat.le_of_ble_eq_true rfl)) dX2_playNoise_40 ⟨Nat.zero_le _, Nat.zero_le _⟩) hP hD hS hA (wr := []) (wf := [(m_h, .inr (2, [.int r4.2.1, .int m_paid, .int r4.2.2.1, .int r4.2.2.2.1, .int m_hat, .int r4.2.2.2.2.1, .ref m_wind])), (t_h, .inr (3, [.int t_players, .int t_bars, .ref t_prices, .ref t_winds, .ref t_kinds, .ref t_looks, .ref t_noises, .ref t_repeats])), (t_noises, .inl (cI, 8, .inl t_noises_v)), (t_kinds, .inl (cI, 6, .inl t_kinds_v)), (m_wind, .inl (cI, 6, .inl r4.2.2.2.2.2)), (t_looks, .inl (cI, 6, .inl t_looks_v)), (t_repeats, .inl (cI, 8, .inl t_repeats_v))]) [0, 1, 2, 3, 4, 5, 6] [] [0, 1, 2, 3, 4, 5, 6] rfl rfl rfl (by decide) rfl rfl (fun H locs hP hD hS => ?_)
      refine lv_pop hx hb dX2_playNoise_43 rfl ?_
      refine lv_iinc (v := nI (k5 + 1)) (lv' := [(4, .int (nI (k5 + 1))), (3, .int (v5.1 + (r2 * r3))), (0, .ref m_h), (1, .ref t_h), (2, .int x1)]) hx hb dX2_playNoise_44 hl (k := 4) rfl (nI_1 k5) (by decide) rfl (fun ls hl => ?_)
      refine lv_goto (tgt := 5) hx hb dX2_playNoise_47 (by decide) ?_
      exact ih _ hu _ _ _ hP hD hS (lv_sub hl [2, 3, 4, 1, 0] rfl)

set_option maxHeartbeats 4000000 in
set_option maxRecDepth 100000 in
theorem c_X2_playBars (l : Launch) (dC : Nat → ClassId) (dI : Nat → Nat → Nat) (cI cZ cM : ClassId) (sz : Nat) (m_h : Nat) (t_h : Nat) (x1 : Int32) (m_playing : Int32) (m_paid : Int32) (m_next : Int32) (m_taken : Int32) (m_hat : Int32) (m_time : Int32) (m_wind : Nat) (t_players : Int32) (t_bars : Int32) (t_prices : Nat) (t_winds : Nat) (t_kinds : Nat) (t_looks : Nat) (t_noises : Nat) (t_repeats : Nat) (t_noises_v : Nat → Int32) (t_kinds_v : Nat → Int32) (m_wind_v : Nat → Int32) (t_looks_v : Nat → Int32) (t_repeats_v : Nat → Int32) (u : Int32 × Int32 × Int32 × Int32 × (Nat → Int32)) (hu : u = f_X2_playBars x1 m_playing m_paid m_next m_taken m_time t_players t_bars t_noises_v t_kinds_v m_wind_v t_looks_v t_repeats_v) : Met l yX2_playBars wsX2_playBars { frames := 4, cells := 0, slots := 0, locals := 88 } (hgPc [.ref m_h, .ref t_h, .int x1] (dC, dI) cI cZ cM [(m_h, .inr (2, [.int m_playing, .int m_paid, .int m_next, .int m_taken, .int m_hat, .int m_time, .ref m_wind])), (t_h, .inr (3, [.int t_players, .int t_bars, .ref t_prices, .ref t_winds, .ref t_kinds, .ref t_looks, .ref t_noises, .ref t_repeats])), (t_noises, .inl (cI, 8, .inl t_noises_v)), (t_kinds, .inl (cI, 6, .inl t_kinds_v)), (m_wind, .inl (cI, 6, .inl m_wind_v)), (t_looks, .inl (cI, 6, .inl t_looks_v)), (t_repeats, .inl (cI, 8, .inl t_repeats_v))] sz) (hgQv (dC, dI) [(m_h, .inr (2, [.int u.1, .int m_paid, .int u.2.1, .int u.2.2.1, .int m_hat, .int u.2.2.2.1, .ref m_wind])), (t_h, .inr (3, [.int t_players, .int t_bars, .ref t_prices, .ref t_winds, .ref t_kinds, .ref t_looks, .ref t_noises, .ref t_repeats])), (t_noises, .inl (cI, 8, .inl t_noises_v)), (t_kinds, .inl (cI, 6, .inl t_kinds_v)), (m_wind, .inl (cI, 6, .inl u.2.2.2.2)), (t_looks, .inl (cI, 6, .inl t_looks_v)), (t_repeats, .inl (cI, 8, .inl t_repeats_v))] (va_A [(m_h, .inr (2, [.int m_playing, .int m_paid, .int m_next, .int m_taken, .int m_hat, .int m_time, .ref m_wind])), (t_h, .inr (3, [.int t_players, .int t_bars, .ref t_prices, .ref t_winds, .ref t_kinds, .ref t_looks, .ref t_noises, .ref t_repeats])), (t_noises, .inl (cI, 8, .inl t_noises_v)), (t_kinds, .inl (cI, 6, .inl t_kinds_v)), (m_wind, .inl (cI, 6, .inl m_wind_v)), (t_looks, .inl (cI, 6, .inl t_looks_v)), (t_repeats, .inl (cI, 8, .inl t_repeats_v))] sz)) 0 0 (va_A [(m_h, .inr (2, [.int m_playing, .int m_paid, .int m_next, .int m_taken, .int m_hat, .int m_time, .ref m_wind])), (t_h, .inr (3, [.int t_players, .int t_bars, .ref t_prices, .ref t_winds, .ref t_kinds, .ref t_looks, .ref t_noises, .ref t_repeats])), (t_noises, .inl (cI, 8, .inl t_noises_v)), (t_kinds, .inl (cI, 6, .inl t_kinds_v)), (m_wind, .inl (cI, 6, .inl m_wind_v)), (t_looks, .inl (cI, 6, .inl t_looks_v)), (t_repeats, .inl (cI, 8, .inl t_repeats_v))] sz) := by
  refine hg_ofW (cc := cX2_playBars) (maxL := 4) (ret := none) (own := RX2) (fun A => hgQv (dC, dI) [(m_h, .inr (2, [.int u.1, .int m_paid, .int u.2.1, .int u.2.2.1, .int m_hat, .int u.2.2.2.1, .ref m_wind])), (t_h, .inr (3, [.int t_players, .int t_bars, .ref t_prices, .ref t_winds, .ref t_kinds, .ref t_looks, .ref t_noises, .ref t_repeats])), (t_noises, .inl (cI, 8, .inl t_noises_v)), (t_kinds, .inl (cI, 6, .inl t_kinds_v)), (m_wind, .inl (cI, 6, .inl u.2.2.2.2)), (t_looks, .inl (cI, 6, .inl t_looks_v)), (t_repeats, .inl (cI, 8, .inl t_repeats_v))] A) rfl (by decide) rfl (Nat.le_of_ble_eq_true rfl) ?_
  intro p e s m below meth c ls A hsz hx hb hr hml hown hts hlk hnm hK hN hA hP hD hS hl
  subst hsz
  have hl : lv_has ls 4 [(0, .ref m_h), (1, .ref t_h), (2, .int x1)] := hl
  unfold f_X2_playBars at hu
  refine lv_iconst (v := 0) hx hb dX2_playBars_0 (by decide) ?_
  refine lv_istore_n (lv' := [(3, .int 0), (0, .ref m_h), (1, .ref t_h), (2, .int x1)]) hx hb dX2_playBars_1 rfl hl (by decide) rfl (fun ls hl => ?_)
  obtain ⟨r2, er2, hu⟩ := lxb_o hu
  refine hg_loopF (T := Int32 × Int32 × Int32 × Int32 × (Nat → Int32)) (N := (itn 0 x1)) (fun v2 => [(m_h, .inr (2, [.int v2.1, .int m_paid, .int v2.2.1, .int v2.2.2.1, .int m_hat, .int v2.2.2.2.1, .ref m_wind])), (t_h, .inr (3, [.int t_players, .int t_bars, .ref t_prices, .ref t_winds, .ref t_kinds, .ref t_looks, .ref t_noises, .ref t_repeats])), (t_noises, .inl (cI, 8, .inl t_noises_v)), (t_kinds, .inl (cI, 6, .inl t_kinds_v)), (m_wind, .inl (cI, 6, .inl v2.2.2.2.2)), (t_looks, .inl (cI, 6, .inl t_looks_v)), (t_repeats, .inl (cI, 8, .inl t_repeats_v))]) (fun k2 v2 => [(0, .ref m_h), (1, .ref t_h), (2, .int x1), (3, .int (nI k2))]) (fun k2 => l_X2_playBars_2 m_paid t_players t_bars t_noises_v t_kinds_v t_looks_v t_repeats_v (m_playing, m_next, m_taken, m_time, m_wind_v) k2) ?_ ?_ hP hD hS (lv_sub hl [1, 2, 3, 0] rfl)
  · intro v2 hv H locs ls hP hD hS hl
    obtain rfl : r2 = v2 := er2.trans hv.symm
    have hP : va_P (dC, dI) vwCl [(m_h, .inr (2, [.int r2.1, .int m_paid, .int r2.2.1, .int r2.2.2.1, .int m_hat, .int r2.2.2.2.1, .ref m_wind])), (t_h, .inr (3, [.int t_players, .int t_bars, .ref t_prices, .ref t_winds, .ref t_kinds, .ref t_looks, .ref t_noises, .ref t_repeats])), (t_noises, .inl (cI, 8, .inl t_noises_v)), (t_kinds, .inl (cI, 6, .inl t_kinds_v)), (m_wind, .inl (cI, 6, .inl r2.2.2.2.2)), (t_looks, .inl (cI, 6, .inl t_looks_v)), (t_repeats, .inl (cI, 8, .inl t_repeats_v))] H := hP
    have hD : va_D A [(m_h, .inr (2, [.int r2.1, .int m_paid, .int r2.2.1, .int r2.2.2.1, .int m_hat, .int r2.2.2.2.1, .ref m_wind])), (t_h, .inr (3, [.int t_players, .int t_bars, .ref t_prices, .ref t_winds, .ref t_kinds, .ref t_looks, .ref t_noises, .ref t_repeats])), (t_noises, .inl (cI, 8, .inl t_noises_v)), (t_kinds, .inl (cI, 6, .inl t_kinds_v)), (m_wind, .inl (cI, 6, .inl r2.2.2.2.2)), (t_looks, .inl (cI, 6, .inl t_looks_v)), (t_repeats, .inl (cI, 8, .inl t_repeats_v))] := hD
    have hl : lv_has ls 4 [(0, .ref m_h), (1, .ref t_h), (2, .int x1), (3, .int (nI (itn 0 x1)))] := hl
    refine lv_iload_n hx hb dX2_playBars_2 rfl (lv_at hl 3 rfl) ?_
    refine lv_iload_n hx hb dX2_playBars_3 rfl (lv_at hl 2 rfl) ?_
    refine lv_icmp_ge (tgt := 19) hx hb dX2_playBars_4 (by decide) (fun c_4 => ?_) (fun c_4 => absurd hg_lo0 c_4)
    subst hu
    exact hg_rv hx hb hr hlk hP hD hS dX2_playBars_19
  · intro k2 hk v2 hv w hw ih H locs ls hP hD hS hl
    have hw : w = b_X2_playBars_2 m_paid t_players t_bars t_noises_v t_kinds_v t_looks_v t_repeats_v k2 v2 := by rw [hw, hv]; rfl
    unfold b_X2_playBars_2 at hw
    have hP : va_P (dC, dI) vwCl [(m_h, .inr (2, [.int v2.1, .int m_paid, .int v2.2.1, .int v2.2.2.1, .int m_hat, .int v2.2.2.2.1, .ref m_wind])), (t_h, .inr (3, [.int t_players, .int t_bars, .ref t_prices, .ref t_winds, .ref t_kinds, .ref t_looks, .ref t_noises, .ref t_repeats])), (t_noises, .inl (cI, 8, .inl t_noises_v)), (t_kinds, .inl (cI, 6, .inl t_kinds_v)), (m_wind, .inl (cI, 6, .inl v2.2.2.2.2)), (t_looks, .inl (cI, 6, .inl t_looks_v)), (t_repeats, .inl (cI, 8, .inl t_repeats_v))] H := hP
    have hD : va_D A [(m_h, .inr (2, [.int v2.1, .int m_paid, .int v2.2.1, .int v2.2.2.1, .int m_hat, .int v2.2.2.2.1, .ref m_wind])), (t_h, .inr (3, [.int t_players, .int t_bars, .ref t_prices, .ref t_winds, .ref t_kinds, .ref t_looks, .ref t_noises, .ref t_repeats])), (t_noises, .inl (cI, 8, .inl t_noises_v)), (t_kinds, .inl (cI, 6, .inl t_kinds_v)), (m_wind, .inl (cI, 6, .inl v2.2.2.2.2)), (t_looks, .inl (cI, 6, .inl t_looks_v)), (t_repeats, .inl (cI, 8, .inl t_repeats_v))] := hD
    have hl : lv_has ls 4 [(0, .ref m_h), (1, .ref t_h), (2, .int x1), (3, .int (nI k2))] := hl
    refine lv_iload_n hx hb dX2_playBars_2 rfl (lv_at hl 3 rfl) ?_
    refine lv_iload_n hx hb dX2_playBars_3 rfl (lv_at hl 2 rfl) ?_
    refine lv_icmp_ge (tgt := 19) hx hb dX2_playBars_4 (by decide) (fun c_4 => absurd c_4 (hg_lo1 hk)) (fun c_4 => ?_)
    refine lv_aload_n hx hb dX2_playBars_7 rfl (lv_at hl 0 rfl) ?_
    refine lv_aload_n hx hb dX2_playBars_8 rfl (lv_at hl 1 rfl) ?_
    obtain ⟨r1, er1, hw⟩ := lxb_o hw
    refine hg_ci (va_runV (As := [.ref t_h]) (rest := []) ⟨hx, hb, hml, hown, hts⟩ (c_X2_playBar l dC dI cI cZ cM _ m_h t_h v2.1 m_paid v2.2.1 v2.2.2.1 m_hat v2.2.2.2.1 m_wind t_players t_bars t_prices t_winds t_kinds t_looks t_noises t_repeats t_noises_v t_kinds_v v2.2.2.2.2 t_looks_v t_repeats_v r1 er1) (cwV 1 hts gX2_playBars_X2_playBar rfl rfl rfl (by decide +kernel) ⟨Nat.le_of_ble_eq_true rfl, Nat.le_of_ble_eq_true rfl⟩) (hgPreV (C := RX2) (T := TX2) (N := 7) (ci := 2) (q0 := 0) hP hD hK hN [0, 1, 2, 3, 4, 5, 6] rfl rfl rfl rfl) rfl rfl hl.1 rfl (lv_room (Nat.le_of_ble_eq_true rfl)) dX2_playBars_9 ⟨Nat.zero_le _, Nat.zero_le _⟩) hP hD hS hA (wr := []) (wf := [(m_h, .inr (2, [.int r1.2.1, .int m_paid, .int r1.2.2.1, .int r1.2.2.2.1, .int m_hat, .int r1.2.2.2.2.1, .ref m_wind])), (t_h, .inr (3, [.int t_players, .int t_bars, .ref t_prices, .ref t_winds, .ref t_kinds, .ref t_looks, .ref t_noises, .ref t_repeats])), (t_noises, .inl (cI, 8, .inl t_noises_v)), (t_kinds, .inl (cI, 6, .inl t_kinds_v)), (m_wind, .inl (cI, 6, .inl r1.2.2.2.2.2)), (t_looks, .inl (cI, 6, .inl t_looks_v)), (t_repeats, .inl (cI, 8, .inl t_repeats_v))]) [0, 1, 2, 3, 4, 5, 6] [] [0, 1, 2, 3, 4, 5, 6] rfl rfl rfl (by decide) rfl rfl (fun H locs hP hD hS => ?_)
    refine lv_pop hx hb dX2_playBars_12 rfl ?_
    refine lv_iinc (v := nI (k2 + 1)) (lv' := [(3, .int (nI (k2 + 1))), (0, .ref m_h), (1, .ref t_h), (2, .int x1)]) hx hb dX2_playBars_13 hl (k := 3) rfl (nI_1 k2) (by decide) rfl (fun ls hl => ?_)
    refine lv_goto (tgt := 2) hx hb dX2_playBars_16 (by decide) ?_
    subst hw
    exact ih _ _ _ hP hD hS (lv_sub hl [1, 2, 3, 0] rfl)

set_option maxHeartbeats 4000000 in
set_option maxRecDepth 100000 in
theorem c_X2_takeGift (l : Launch) (dC : Nat → ClassId) (dI : Nat → Nat → Nat) (cI cZ cM : ClassId) (sz : Nat) (m_h : Nat) (x0 : Int32) (m_playing : Int32) (m_paid : Int32) (m_next : Int32) (m_taken : Int32) (m_hat : Int32) (m_time : Int32) (m_wind : Nat) (u : Int32 × Int32) (hu : u = f_X2_takeGift x0 m_hat) : Met l yX2_takeGift wsX2_takeGift { frames := 1, cells := 0, slots := 0, locals := 14 } (hgPc [.ref m_h, .int x0] (dC, dI) cI cZ cM [(m_h, .inr (2, [.int m_playing, .int m_paid, .int m_next, .int m_taken, .int m_hat, .int m_time, .ref m_wind]))] sz) (hgQi (dC, dI) u.1 [(m_h, .inr (2, [.int m_playing, .int m_paid, .int m_next, .int m_taken, .int u.2, .int m_time, .ref m_wind]))] (va_A [(m_h, .inr (2, [.int m_playing, .int m_paid, .int m_next, .int m_taken, .int m_hat, .int m_time, .ref m_wind]))] sz)) 0 0 (va_A [(m_h, .inr (2, [.int m_playing, .int m_paid, .int m_next, .int m_taken, .int m_hat, .int m_time, .ref m_wind]))] sz) := by
  refine hg_ofW (cc := cX2_takeGift) (maxL := 2) (ret := (some .boolean)) (own := RX2) (fun A => hgQi (dC, dI) u.1 [(m_h, .inr (2, [.int m_playing, .int m_paid, .int m_next, .int m_taken, .int u.2, .int m_time, .ref m_wind]))] A) rfl (by decide) rfl (Nat.le_of_ble_eq_true rfl) ?_
  intro p e s m below meth c ls A hsz hx hb hr hml hown hts hlk hnm hK hN hA hP hD hS hl
  subst hsz
  have w1 := hts (.fieldLink RX2 34 "HatGoesRound$Moment" "hat" "I") (List.mem_of_getElem? (i := 1) rfl)
  have hinX2 : ∀ w ∈ u_ws RX2 TX2 7, w ∈ wsX2_takeGift := fun _ h => List.mem_cons_of_mem _ (List.mem_append_right _ h)
  have w2 := hts (.methodLink RX2 133 Lib.Math.min.name) (List.mem_of_getElem? (i := 2) rfl)
  have w3 := hts (.static Lib.Math.min.name) (List.mem_of_getElem? (i := 3) rfl)
  have w4 := hts (.initialized "java/lang/Math") (List.mem_of_getElem? (i := 4) rfl)
  have w5 := hts (.code Lib.Math.min.name Lib.Math.min.code 2 (some .int)) (List.mem_of_getElem? (i := 5) rfl)
  have hl : lv_has ls 2 [(0, .ref m_h), (1, .int x0)] := hl
  unfold f_X2_takeGift at hu
  refine lv_iload_n hx hb dX2_takeGift_0 rfl (lv_at hl 1 rfl) ?_
  refine lv_iconst (v := 1) hx hb dX2_takeGift_1 (by decide) ?_
  refine lv_icmp_lt (tgt := 11) hx hb dX2_takeGift_2 (by decide) (fun c_2 => ?_) (fun c_2 => ?_)
  · have hu := hu.trans (if_pos c_2)
    refine lv_iconst (v := 0) hx hb dX2_takeGift_11 (by decide) ?_
    subst hu
    exact hg_rz hx hb hr hlk (by decide) rfl hP hD hS dX2_takeGift_12
  · have hu := hu.trans (if_neg c_2)
    refine lv_iload_n hx hb dX2_takeGift_5 rfl (lv_at hl 1 rfl) ?_
    refine lv_bipush (v := 9) hx hb dX2_takeGift_6 (by decide) ?_
    refine lv_icmp_le (tgt := 13) hx hb dX2_takeGift_8 (by decide) (fun c_8 => ?_) (fun c_8 => ?_)
    · have hu := hu.trans (if_pos c_8)
      refine lv_aload_n hx hb dX2_takeGift_13 rfl (lv_at hl 0 rfl) ?_
      refine lv_bipush (v := 99) hx hb dX2_takeGift_14 (by decide) ?_
      refine lv_aload_n hx hb dX2_takeGift_16 rfl (lv_at hl 0 rfl) ?_
      refine va_get (D := (dC, dI)) (ci := 2) (v := .int m_hat) (C := RX2) (T := TX2) (N := 7) hx hb hts hinX2 hown hK hP 0 rfl rfl 4 (by decide) w1 (fun _ h9 => h9) rfl dX2_takeGift_17 ?_
      refine lv_iload_n hx hb dX2_takeGift_20 rfl (lv_at hl 1 rfl) ?_
      refine lv_iadd hx hb dX2_takeGift_21 ?_
      refine va_mmin hx hb (hml.trans hl.1.symm) hown w2 w3 w4 w5 (Nat.le_of_ble_eq_true rfl) (Nat.le_of_ble_eq_true rfl) (Nat.zero_le _) (Nat.zero_le _) dX2_takeGift_22 ?_
      obtain ⟨y1, ey1, hu⟩ := lxb_o hu
      refine lv_topi (fun z ez => ?_)
      obtain rfl : y1 = z := ey1.trans ez.symm
      refine va_put (D := (dC, dI)) (ci := 2) (v := .int y1) (ty := .int) (C := RX2) (T := TX2) (N := 7) hx hb hts hinX2 tyX2 tyX2_ok nmX2 hown hK hP hD hS 0 rfl rfl 4 (by decide) w1 (fun _ h9 => h9) rfl (by decide +kernel) rfl rfl (Nat.le_of_ble_eq_true rfl) dX2_takeGift_25 (fun H locs hP hD hS => ?_)
      have hP : va_P (dC, dI) vwCl [(m_h, .inr (2, [.int m_playing, .int m_paid, .int m_next, .int m_taken, .int y1, .int m_time, .ref m_wind]))] H := hP
      have hD : va_D A [(m_h, .inr (2, [.int m_playing, .int m_paid, .int m_next, .int m_taken, .int y1, .int m_time, .ref m_wind]))] := hD
      refine lv_iconst (v := 1) hx hb dX2_takeGift_28 (by decide) ?_
      subst hu
      exact hg_rz hx hb hr hlk (by decide) rfl hP hD hS dX2_takeGift_29
    · have hu := hu.trans (if_neg c_8)
      refine lv_iconst (v := 0) hx hb dX2_takeGift_11 (by decide) ?_
      subst hu
      exact hg_rz hx hb hr hlk (by decide) rfl hP hD hS dX2_takeGift_12

set_option maxHeartbeats 4000000 in
set_option maxRecDepth 100000 in
theorem c_X2_payFromHat (l : Launch) (dC : Nat → ClassId) (dI : Nat → Nat → Nat) (cI cZ cM : ClassId) (sz : Nat) (m_h : Nat) (t_h : Nat) (x1 : Int32) (m_playing : Int32) (m_paid : Int32) (m_next : Int32) (m_taken : Int32) (m_hat : Int32) (m_time : Int32) (m_wind : Nat) (t_players : Int32) (t_bars : Int32) (t_prices : Nat) (t_winds : Nat) (t_kinds : Nat) (t_looks : Nat) (t_noises : Nat) (t_repeats : Nat) (t_prices_v : Nat → Int32) (u : Int32 × Int32 × Int32 × Int32) (hu : u = f_X2_payFromHat x1 m_playing m_paid m_hat t_players t_prices_v) : Met l yX2_payFromHat wsX2_payFromHat { frames := 1, cells := 0, slots := 0, locals := 21 } (hgPc [.ref m_h, .ref t_h, .int x1] (dC, dI) cI cZ cM [(m_h, .inr (2, [.int m_playing, .int m_paid, .int m_next, .int m_taken, .int m_hat, .int m_time, .ref m_wind])), (t_h, .inr (3, [.int t_players, .int t_bars, .ref t_prices, .ref t_winds, .ref t_kinds, .ref t_looks, .ref t_noises, .ref t_repeats])), (t_prices, .inl (cI, 6, .inl t_prices_v))] sz) (hgQi (dC, dI) u.1 [(m_h, .inr (2, [.int u.2.1, .int u.2.2.1, .int m_next, .int m_taken, .int u.2.2.2, .int m_time, .ref m_wind])), (t_h, .inr (3, [.int t_players, .int t_bars, .ref t_prices, .ref t_winds, .ref t_kinds, .ref t_looks, .ref t_noises, .ref t_repeats])), (t_prices, .inl (cI, 6, .inl t_prices_v))] (va_A [(m_h, .inr (2, [.int m_playing, .int m_paid, .int m_next, .int m_taken, .int m_hat, .int m_time, .ref m_wind])), (t_h, .inr (3, [.int t_players, .int t_bars, .ref t_prices, .ref t_winds, .ref t_kinds, .ref t_looks, .ref t_noises, .ref t_repeats])), (t_prices, .inl (cI, 6, .inl t_prices_v))] sz)) 0 0 (va_A [(m_h, .inr (2, [.int m_playing, .int m_paid, .int m_next, .int m_taken, .int m_hat, .int m_time, .ref m_wind])), (t_h, .inr (3, [.int t_players, .int t_bars, .ref t_prices, .ref t_winds, .ref t_kinds, .ref t_looks, .ref t_noises, .ref t_repeats])), (t_prices, .inl (cI, 6, .inl t_prices_v))] sz) := by
  refine hg_ofW (cc := cX2_payFromHat) (maxL := 3) (ret := (some .boolean)) (own := RX2) (fun A => hgQi (dC, dI) u.1 [(m_h, .inr (2, [.int u.2.1, .int u.2.2.1, .int m_next, .int m_taken, .int u.2.2.2, .int m_time, .ref m_wind])), (t_h, .inr (3, [.int t_players, .int t_bars, .ref t_prices, .ref t_winds, .ref t_kinds, .ref t_looks, .ref t_noises, .ref t_repeats])), (t_prices, .inl (cI, 6, .inl t_prices_v))] A) rfl (by decide) rfl (Nat.le_of_ble_eq_true rfl) ?_
  intro p e s m below meth c ls A hsz hx hb hr hml hown hts hlk hnm hK hN hA hP hD hS hl
  subst hsz
  have w1 := hts (.fieldLink RX2 34 "HatGoesRound$Moment" "hat" "I") (List.mem_of_getElem? (i := 1) rfl)
  have hinX2 : ∀ w ∈ u_ws RX2 TX2 7, w ∈ wsX2_payFromHat := fun _ h => List.mem_cons_of_mem _ (List.mem_append_left _ (List.mem_append_right _ h))
  have w2 := hts (.fieldLink RX2 136 "HatGoesRound$Told" "prices" "[I") (List.mem_of_getElem? (i := 2) rfl)
  have hinX3 : ∀ w ∈ u_ws RX3 TX3 8, w ∈ wsX2_payFromHat := fun _ h => List.mem_cons_of_mem _ (List.mem_append_right _ h)
  have w16 := hts (.initialized RX4) (List.mem_of_getElem? (i := 16) rfl)
  have w15 := hts (.static yX4_at) (List.mem_of_getElem? (i := 15) rfl)
  have hl : lv_has ls 3 [(0, .ref m_h), (1, .ref t_h), (2, .int x1)] := hl
  unfold f_X2_payFromHat at hu
  refine lv_aload_n hx hb dX2_payFromHat_0 rfl (lv_at hl 1 rfl) ?_
  refine lv_iload_n hx hb dX2_payFromHat_1 rfl (lv_at hl 2 rfl) ?_
  obtain ⟨r1, er1, hu⟩ := lxb_o hu
  refine hg_ci (va_runV (As := [.int x1]) (rest := []) ⟨hx, hb, hml, hown, hts⟩ (c_X3_hasPlayer l dC dI cI cZ cM _ t_h x1 t_players t_bars t_prices t_winds t_kinds t_looks t_noises t_repeats r1 er1) (cwV 1 hts gX2_payFromHat_X3_hasPlayer rfl rfl rfl (by decide +kernel) ⟨Nat.le_of_ble_eq_true rfl, Nat.le_of_ble_eq_true rfl⟩) (hgPreV (C := RX3) (T := TX3) (N := 8) (ci := 3) (q0 := 1) hP hD hK hN [1] rfl rfl rfl rfl) rfl rfl hl.1 rfl (lv_room (Nat.le_of_ble_eq_true rfl)) dX2_payFromHat_2 ⟨Nat.zero_le _, Nat.zero_le _⟩) hP hD hS hA (wr := [(m_h, .inr (2, [.int m_playing, .int m_paid, .int m_next, .int m_taken, .int m_hat, .int m_time, .ref m_wind])), (t_prices, .inl (cI, 6, .inl t_prices_v))]) (wf := [(m_h, .inr (2, [.int m_playing, .int m_paid, .int m_next, .int m_taken, .int m_hat, .int m_time, .ref m_wind])), (t_h, .inr (3, [.int t_players, .int t_bars, .ref t_prices, .ref t_winds, .ref t_kinds, .ref t_looks, .ref t_noises, .ref t_repeats])), (t_prices, .inl (cI, 6, .inl t_prices_v))]) [1] [0, 2] [0, 2, 1] rfl rfl rfl (by decide) rfl rfl (fun H locs hP hD hS => ?_)
  refine lv_if_eq (tgt := 31) hx hb dX2_payFromHat_5 (by decide) (fun c_5 => ?_) (fun c_5 => ?_)
  · have hu := hu.trans (if_pos c_5)
    refine lv_iconst (v := 0) hx hb dX2_payFromHat_31 (by decide) ?_
    subst hu
    exact hg_rz hx hb hr hlk (by decide) rfl hP hD hS dX2_payFromHat_32
  · have hu := hu.trans (if_neg c_5)
    refine lv_aload_n hx hb dX2_payFromHat_8 rfl (lv_at hl 0 rfl) ?_
    refine lv_iload_n hx hb dX2_payFromHat_9 rfl (lv_at hl 2 rfl) ?_
    obtain ⟨r2, er2, hu⟩ := lxb_o hu
    refine hg_ci (va_runV (As := [.int x1]) (rest := []) ⟨hx, hb, hml, hown, hts⟩ (c_X2_isPlaying l dC dI cI cZ cM _ m_h x1 m_playing m_paid m_next m_taken m_hat m_time m_wind r2 er2) (cwV 1 hts gX2_payFromHat_X2_isPlaying rfl rfl rfl (by decide +kernel) ⟨Nat.le_of_ble_eq_true rfl, Nat.le_of_ble_eq_true rfl⟩) (hgPreV (C := RX2) (T := TX2) (N := 7) (ci := 2) (q0 := 0) hP hD hK hN [0] rfl rfl rfl rfl) rfl rfl hl.1 rfl (lv_room (Nat.le_of_ble_eq_true rfl)) dX2_payFromHat_10 ⟨Nat.zero_le _, Nat.zero_le _⟩) hP hD hS hA (wr := [(t_h, .inr (3, [.int t_players, .int t_bars, .ref t_prices, .ref t_winds, .ref t_kinds, .ref t_looks, .ref t_noises, .ref t_repeats])), (t_prices, .inl (cI, 6, .inl t_prices_v))]) (wf := [(m_h, .inr (2, [.int m_playing, .int m_paid, .int m_next, .int m_taken, .int m_hat, .int m_time, .ref m_wind])), (t_h, .inr (3, [.int t_players, .int t_bars, .ref t_prices, .ref t_winds, .ref t_kinds, .ref t_looks, .ref t_noises, .ref t_repeats])), (t_prices, .inl (cI, 6, .inl t_prices_v))]) [0] [1, 2] [2, 0, 1] rfl rfl rfl (by decide) rfl rfl (fun H locs hP hD hS => ?_)
    refine lv_if_eq (tgt := 31) hx hb dX2_payFromHat_13 (by decide) (fun c_13 => ?_) (fun c_13 => ?_)
    · have hu := hu.trans (if_pos c_13)
      refine lv_iconst (v := 0) hx hb dX2_payFromHat_31 (by decide) ?_
      subst hu
      exact hg_rz hx hb hr hlk (by decide) rfl hP hD hS dX2_payFromHat_32
    · have hu := hu.trans (if_neg c_13)
      refine lv_aload_n hx hb dX2_payFromHat_16 rfl (lv_at hl 0 rfl) ?_
      refine va_get (D := (dC, dI)) (ci := 2) (v := .int m_hat) (C := RX2) (T := TX2) (N := 7) hx hb hts hinX2 hown hK hP 0 rfl rfl 4 (by decide) w1 (fun _ h9 => h9) rfl dX2_payFromHat_17 ?_
      refine lv_aload_n hx hb dX2_payFromHat_20 rfl (lv_at hl 1 rfl) ?_
      refine va_get (D := (dC, dI)) (ci := 3) (v := .ref t_prices) (C := RX3) (T := TX3) (N := 8) hx hb hts hinX3 hown hK hP 1 rfl rfl 2 (by decide) w2 (fun _ h9 => h9) rfl dX2_payFromHat_21 ?_
      refine lv_iload_n hx hb dX2_payFromHat_24 rfl (lv_at hl 2 rfl) ?_
      obtain ⟨r3, er3, hu⟩ := lxb_o hu
      refine hg_ci (va_runSN (As := [.ref t_prices, .int x1]) (rest := [.int m_hat]) ⟨hx, hb, hml, hown, hts⟩ (c_X4_at l dC dI cI cZ cM _ t_prices x1 6 t_prices_v (by decide) r3 er3) ⟨va_cnB 2 hts gX2_payFromHat_X4_at_n47 rfl rfl rfl hN.2.2.1 w16 (by decide +kernel) ⟨Nat.le_of_ble_eq_true rfl, Nat.le_of_ble_eq_true rfl⟩, w15, trivial⟩ (hgPreS hP hD hK hN [2] rfl rfl) rfl rfl hl.1 rfl (lv_room (Nat.le_of_ble_eq_true rfl)) dX2_payFromHat_25 ⟨Nat.zero_le _, Nat.zero_le _⟩) hP hD hS hA (wr := [(m_h, .inr (2, [.int m_playing, .int m_paid, .int m_next, .int m_taken, .int m_hat, .int m_time, .ref m_wind])), (t_h, .inr (3, [.int t_players, .int t_bars, .ref t_prices, .ref t_winds, .ref t_kinds, .ref t_looks, .ref t_noises, .ref t_repeats]))]) (wf := [(m_h, .inr (2, [.int m_playing, .int m_paid, .int m_next, .int m_taken, .int m_hat, .int m_time, .ref m_wind])), (t_h, .inr (3, [.int t_players, .int t_bars, .ref t_prices, .ref t_winds, .ref t_kinds, .ref t_looks, .ref t_noises, .ref t_repeats])), (t_prices, .inl (cI, 6, .inl t_prices_v))]) [2] [0, 1] [0, 1, 2] rfl rfl rfl (by decide) rfl rfl (fun H locs hP hD hS => ?_)
      refine lv_icmp_ge (tgt := 33) hx hb dX2_payFromHat_28 (by decide) (fun c_28 => ?_) (fun c_28 => ?_)
      · have hu := hu.trans (if_pos c_28)
        refine lv_aload_n hx hb dX2_payFromHat_33 rfl (lv_at hl 0 rfl) ?_
        refine lv_dup hx hb dX2_payFromHat_34 rfl ?_
        refine va_get (D := (dC, dI)) (ci := 2) (v := .int m_hat) (C := RX2) (T := TX2) (N := 7) hx hb hts hinX2 hown hK hP 0 rfl rfl 4 (by decide) w1 (fun _ h9 => h9) rfl dX2_payFromHat_35 ?_
        refine lv_aload_n hx hb dX2_payFromHat_38 rfl (lv_at hl 1 rfl) ?_
        refine va_get (D := (dC, dI)) (ci := 3) (v := .ref t_prices) (C := RX3) (T := TX3) (N := 8) hx hb hts hinX3 hown hK hP 1 rfl rfl 2 (by decide) w2 (fun _ h9 => h9) rfl dX2_payFromHat_39 ?_
        refine lv_iload_n hx hb dX2_payFromHat_42 rfl (lv_at hl 2 rfl) ?_
        obtain ⟨r4, er4, hu⟩ := lxb_o hu
        refine hg_ci (va_runSN (As := [.ref t_prices, .int x1]) (rest := [.int m_hat, .ref m_h]) ⟨hx, hb, hml, hown, hts⟩ (c_X4_at l dC dI cI cZ cM _ t_prices x1 6 t_prices_v (by decide) r4 er4) ⟨va_cnB 2 hts gX2_payFromHat_X4_at_n47 rfl rfl rfl hN.2.2.1 w16 (by decide +kernel) ⟨Nat.le_of_ble_eq_true rfl, Nat.le_of_ble_eq_true rfl⟩, w15, trivial⟩ (hgPreS hP hD hK hN [2] rfl rfl) rfl rfl hl.1 rfl (lv_room (Nat.le_of_ble_eq_true rfl)) dX2_payFromHat_43 ⟨Nat.zero_le _, Nat.zero_le _⟩) hP hD hS hA (wr := [(m_h, .inr (2, [.int m_playing, .int m_paid, .int m_next, .int m_taken, .int m_hat, .int m_time, .ref m_wind])), (t_h, .inr (3, [.int t_players, .int t_bars, .ref t_prices, .ref t_winds, .ref t_kinds, .ref t_looks, .ref t_noises, .ref t_repeats]))]) (wf := [(m_h, .inr (2, [.int m_playing, .int m_paid, .int m_next, .int m_taken, .int m_hat, .int m_time, .ref m_wind])), (t_h, .inr (3, [.int t_players, .int t_bars, .ref t_prices, .ref t_winds, .ref t_kinds, .ref t_looks, .ref t_noises, .ref t_repeats])), (t_prices, .inl (cI, 6, .inl t_prices_v))]) [2] [0, 1] [0, 1, 2] rfl rfl rfl (by decide) rfl rfl (fun H locs hP hD hS => ?_)
        refine lv_isub hx hb dX2_payFromHat_46 ?_
        refine va_put (D := (dC, dI)) (ci := 2) (v := .int (m_hat - r4)) (ty := .int) (C := RX2) (T := TX2) (N := 7) hx hb hts hinX2 tyX2 tyX2_ok nmX2 hown hK hP hD hS 0 rfl rfl 4 (by decide) w1 (fun _ h9 => h9) rfl (by decide +kernel) rfl rfl (Nat.le_of_ble_eq_true rfl) dX2_payFromHat_47 (fun H locs hP hD hS => ?_)
        have hP : va_P (dC, dI) vwCl [(m_h, .inr (2, [.int m_playing, .int m_paid, .int m_next, .int m_taken, .int (m_hat - r4), .int m_time, .ref m_wind])), (t_h, .inr (3, [.int t_players, .int t_bars, .ref t_prices, .ref t_winds, .ref t_kinds, .ref t_looks, .ref t_noises, .ref t_repeats])), (t_prices, .inl (cI, 6, .inl t_prices_v))] H := hP
        have hD : va_D A [(m_h, .inr (2, [.int m_playing, .int m_paid, .int m_next, .int m_taken, .int (m_hat - r4), .int m_time, .ref m_wind])), (t_h, .inr (3, [.int t_players, .int t_bars, .ref t_prices, .ref t_winds, .ref t_kinds, .ref t_looks, .ref t_noises, .ref t_repeats])), (t_prices, .inl (cI, 6, .inl t_prices_v))] := hD
        refine lv_aload_n hx hb dX2_payFromHat_50 rfl (lv_at hl 0 rfl) ?_
        refine lv_iconst (v := 1) hx hb dX2_payFromHat_51 (by decide) ?_
        refine lv_iload_n hx hb dX2_payFromHat_52 rfl (lv_at hl 2 rfl) ?_
        refine lv_ishl hx hb dX2_payFromHat_53 ?_
        obtain ⟨r5, er5, hu⟩ := lxb_o hu
        refine hg_cv (va_runV (As := [.int (1 <<< (x1 &&& 31))]) (rest := []) ⟨hx, hb, hml, hown, hts⟩ (c_X2_payFreely l dC dI cI cZ cM _ m_h (1 <<< (x1 &&& 31)) m_playing m_paid m_next m_taken (m_hat - r4) m_time m_wind r5 er5) (cwV 1 hts gX2_payFromHat_X2_payFreely rfl rfl rfl (by decide +kernel) ⟨Nat.le_of_ble_eq_true rfl, Nat.le_of_ble_eq_true rfl⟩) (hgPreV (C := RX2) (T := TX2) (N := 7) (ci := 2) (q0 := 0) hP hD hK hN [0] rfl rfl rfl rfl) rfl rfl hl.1 rfl (lv_room (Nat.le_of_ble_eq_true rfl)) dX2_payFromHat_54 ⟨Nat.zero_le _, Nat.zero_le _⟩) hP hD hS hA (wr := [(t_h, .inr (3, [.int t_players, .int t_bars, .ref t_prices, .ref t_winds, .ref t_kinds, .ref t_looks, .ref t_noises, .ref t_repeats])), (t_prices, .inl (cI, 6, .inl t_prices_v))]) (wf := [(m_h, .inr (2, [.int r5.1, .int r5.2, .int m_next, .int m_taken, .int (m_hat - r4), .int m_time, .ref m_wind])), (t_h, .inr (3, [.int t_players, .int t_bars, .ref t_prices, .ref t_winds, .ref t_kinds, .ref t_looks, .ref t_noises, .ref t_repeats])), (t_prices, .inl (cI, 6, .inl t_prices_v))]) [0] [1, 2] [2, 0, 1] rfl rfl rfl (by decide) rfl rfl (fun H locs hP hD hS => ?_)
        refine lv_iconst (v := 1) hx hb dX2_payFromHat_57 (by decide) ?_
        subst hu
        exact hg_rz hx hb hr hlk (by decide) rfl hP hD hS dX2_payFromHat_58
      · have hu := hu.trans (if_neg c_28)
        refine lv_iconst (v := 0) hx hb dX2_payFromHat_31 (by decide) ?_
        subst hu
        exact hg_rz hx hb hr hlk (by decide) rfl hP hD hS dX2_payFromHat_32

set_option maxHeartbeats 4000000 in
set_option maxRecDepth 100000 in
theorem c_X2_restPlayer (l : Launch) (dC : Nat → ClassId) (dI : Nat → Nat → Nat) (cI cZ cM : ClassId) (sz : Nat) (m_h : Nat) (t_h : Nat) (x1 : Int32) (m_playing : Int32) (m_paid : Int32) (m_next : Int32) (m_taken : Int32) (m_hat : Int32) (m_time : Int32) (m_wind : Nat) (t_players : Int32) (t_bars : Int32) (t_prices : Nat) (t_winds : Nat) (t_kinds : Nat) (t_looks : Nat) (t_noises : Nat) (t_repeats : Nat) (t_winds_v : Nat → Int32) (m_wind_v : Nat → Int32) (u : Int32 × Int32 × (Nat → Int32)) (hu : u = f_X2_restPlayer x1 m_playing m_paid t_players t_winds_v m_wind_v) : Met l yX2_restPlayer wsX2_restPlayer { frames := 2, cells := 0, slots := 0, locals := 42 } (hgPc [.ref m_h, .ref t_h, .int x1] (dC, dI) cI cZ cM [(m_h, .inr (2, [.int m_playing, .int m_paid, .int m_next, .int m_taken, .int m_hat, .int m_time, .ref m_wind])), (t_h, .inr (3, [.int t_players, .int t_bars, .ref t_prices, .ref t_winds, .ref t_kinds, .ref t_looks, .ref t_noises, .ref t_repeats])), (t_winds, .inl (cI, 6, .inl t_winds_v)), (m_wind, .inl (cI, 6, .inl m_wind_v))] sz) (hgQi (dC, dI) u.1 [(m_h, .inr (2, [.int u.2.1, .int m_paid, .int m_next, .int m_taken, .int m_hat, .int m_time, .ref m_wind])), (t_h, .inr (3, [.int t_players, .int t_bars, .ref t_prices, .ref t_winds, .ref t_kinds, .ref t_looks, .ref t_noises, .ref t_repeats])), (t_winds, .inl (cI, 6, .inl t_winds_v)), (m_wind, .inl (cI, 6, .inl u.2.2))] (va_A [(m_h, .inr (2, [.int m_playing, .int m_paid, .int m_next, .int m_taken, .int m_hat, .int m_time, .ref m_wind])), (t_h, .inr (3, [.int t_players, .int t_bars, .ref t_prices, .ref t_winds, .ref t_kinds, .ref t_looks, .ref t_noises, .ref t_repeats])), (t_winds, .inl (cI, 6, .inl t_winds_v)), (m_wind, .inl (cI, 6, .inl m_wind_v))] sz)) 0 0 (va_A [(m_h, .inr (2, [.int m_playing, .int m_paid, .int m_next, .int m_taken, .int m_hat, .int m_time, .ref m_wind])), (t_h, .inr (3, [.int t_players, .int t_bars, .ref t_prices, .ref t_winds, .ref t_kinds, .ref t_looks, .ref t_noises, .ref t_repeats])), (t_winds, .inl (cI, 6, .inl t_winds_v)), (m_wind, .inl (cI, 6, .inl m_wind_v))] sz) := by
  refine hg_ofW (cc := cX2_restPlayer) (maxL := 3) (ret := (some .boolean)) (own := RX2) (fun A => hgQi (dC, dI) u.1 [(m_h, .inr (2, [.int u.2.1, .int m_paid, .int m_next, .int m_taken, .int m_hat, .int m_time, .ref m_wind])), (t_h, .inr (3, [.int t_players, .int t_bars, .ref t_prices, .ref t_winds, .ref t_kinds, .ref t_looks, .ref t_noises, .ref t_repeats])), (t_winds, .inl (cI, 6, .inl t_winds_v)), (m_wind, .inl (cI, 6, .inl u.2.2))] A) rfl (by decide) rfl (Nat.le_of_ble_eq_true rfl) ?_
  intro p e s m below meth c ls A hsz hx hb hr hml hown hts hlk hnm hK hN hA hP hD hS hl
  subst hsz
  have w1 := hts (.fieldLink RX2 44 "HatGoesRound$Told" "winds" "[I") (List.mem_of_getElem? (i := 1) rfl)
  have hinX3 : ∀ w ∈ u_ws RX3 TX3 8, w ∈ wsX2_restPlayer := fun _ h => List.mem_cons_of_mem _ (List.mem_append_left _ (List.mem_append_right _ h))
  have w25 := hts (.initialized RX4) (List.mem_of_getElem? (i := 25) rfl)
  have w24 := hts (.static yX4_at) (List.mem_of_getElem? (i := 24) rfl)
  have w2 := hts (.fieldLink RX2 9 "HatGoesRound$Moment" "wind" "[I") (List.mem_of_getElem? (i := 2) rfl)
  have hinX2 : ∀ w ∈ u_ws RX2 TX2 7, w ∈ wsX2_restPlayer := fun _ h => List.mem_cons_of_mem _ (List.mem_append_right _ h)
  have w27 := hts (.static yX4_put) (List.mem_of_getElem? (i := 27) rfl)
  have w3 := hts (.fieldLink RX2 21 "HatGoesRound$Moment" "playing" "I") (List.mem_of_getElem? (i := 3) rfl)
  have hl : lv_has ls 3 [(0, .ref m_h), (1, .ref t_h), (2, .int x1)] := hl
  unfold f_X2_restPlayer at hu
  refine lv_aload_n hx hb dX2_restPlayer_0 rfl (lv_at hl 1 rfl) ?_
  refine lv_iload_n hx hb dX2_restPlayer_1 rfl (lv_at hl 2 rfl) ?_
  obtain ⟨r1, er1, hu⟩ := lxb_o hu
  refine hg_ci (va_runV (As := [.int x1]) (rest := []) ⟨hx, hb, hml, hown, hts⟩ (c_X3_hasPlayer l dC dI cI cZ cM _ t_h x1 t_players t_bars t_prices t_winds t_kinds t_looks t_noises t_repeats r1 er1) (cwV 1 hts gX2_restPlayer_X3_hasPlayer rfl rfl rfl (by decide +kernel) ⟨Nat.le_of_ble_eq_true rfl, Nat.le_of_ble_eq_true rfl⟩) (hgPreV (C := RX3) (T := TX3) (N := 8) (ci := 3) (q0 := 1) hP hD hK hN [1] rfl rfl rfl rfl) rfl rfl hl.1 rfl (lv_room (Nat.le_of_ble_eq_true rfl)) dX2_restPlayer_2 ⟨Nat.zero_le _, Nat.zero_le _⟩) hP hD hS hA (wr := [(m_h, .inr (2, [.int m_playing, .int m_paid, .int m_next, .int m_taken, .int m_hat, .int m_time, .ref m_wind])), (t_winds, .inl (cI, 6, .inl t_winds_v)), (m_wind, .inl (cI, 6, .inl m_wind_v))]) (wf := [(m_h, .inr (2, [.int m_playing, .int m_paid, .int m_next, .int m_taken, .int m_hat, .int m_time, .ref m_wind])), (t_h, .inr (3, [.int t_players, .int t_bars, .ref t_prices, .ref t_winds, .ref t_kinds, .ref t_looks, .ref t_noises, .ref t_repeats])), (t_winds, .inl (cI, 6, .inl t_winds_v)), (m_wind, .inl (cI, 6, .inl m_wind_v))]) [1] [0, 2, 3] [0, 3, 1, 2] rfl rfl rfl (by decide) rfl rfl (fun H locs hP hD hS => ?_)
  refine lv_if_eq (tgt := 27) hx hb dX2_restPlayer_5 (by decide) (fun c_5 => ?_) (fun c_5 => ?_)
  · have hu := hu.trans (if_pos c_5)
    refine lv_iconst (v := 0) hx hb dX2_restPlayer_27 (by decide) ?_
    subst hu
    exact hg_rz hx hb hr hlk (by decide) rfl hP hD hS dX2_restPlayer_28
  · have hu := hu.trans (if_neg c_5)
    refine lv_aload_n hx hb dX2_restPlayer_8 rfl (lv_at hl 0 rfl) ?_
    refine lv_iload_n hx hb dX2_restPlayer_9 rfl (lv_at hl 2 rfl) ?_
    obtain ⟨r2, er2, hu⟩ := lxb_o hu
    refine hg_ci (va_runV (As := [.int x1]) (rest := []) ⟨hx, hb, hml, hown, hts⟩ (c_X2_isTired l dC dI cI cZ cM _ m_h x1 m_playing m_paid m_next m_taken m_hat m_time m_wind r2 er2) (cwV 1 hts gX2_restPlayer_X2_isTired rfl rfl rfl (by decide +kernel) ⟨Nat.le_of_ble_eq_true rfl, Nat.le_of_ble_eq_true rfl⟩) (hgPreV (C := RX2) (T := TX2) (N := 7) (ci := 2) (q0 := 0) hP hD hK hN [0] rfl rfl rfl rfl) rfl rfl hl.1 rfl (lv_room (Nat.le_of_ble_eq_true rfl)) dX2_restPlayer_10 ⟨Nat.zero_le _, Nat.zero_le _⟩) hP hD hS hA (wr := [(t_h, .inr (3, [.int t_players, .int t_bars, .ref t_prices, .ref t_winds, .ref t_kinds, .ref t_looks, .ref t_noises, .ref t_repeats])), (t_winds, .inl (cI, 6, .inl t_winds_v)), (m_wind, .inl (cI, 6, .inl m_wind_v))]) (wf := [(m_h, .inr (2, [.int m_playing, .int m_paid, .int m_next, .int m_taken, .int m_hat, .int m_time, .ref m_wind])), (t_h, .inr (3, [.int t_players, .int t_bars, .ref t_prices, .ref t_winds, .ref t_kinds, .ref t_looks, .ref t_noises, .ref t_repeats])), (t_winds, .inl (cI, 6, .inl t_winds_v)), (m_wind, .inl (cI, 6, .inl m_wind_v))]) [0] [1, 2, 3] [3, 0, 1, 2] rfl rfl rfl (by decide) rfl rfl (fun H locs hP hD hS => ?_)
    refine lv_if_eq (tgt := 27) hx hb dX2_restPlayer_13 (by decide) (fun c_13 => ?_) (fun c_13 => ?_)
    · have hu := hu.trans (if_pos c_13)
      refine lv_iconst (v := 0) hx hb dX2_restPlayer_27 (by decide) ?_
      subst hu
      exact hg_rz hx hb hr hlk (by decide) rfl hP hD hS dX2_restPlayer_28
    · have hu := hu.trans (if_neg c_13)
      refine lv_aload_n hx hb dX2_restPlayer_16 rfl (lv_at hl 1 rfl) ?_
      refine va_get (D := (dC, dI)) (ci := 3) (v := .ref t_winds) (C := RX3) (T := TX3) (N := 8) hx hb hts hinX3 hown hK hP 1 rfl rfl 3 (by decide) w1 (fun _ h9 => h9) rfl dX2_restPlayer_17 ?_
      refine lv_iload_n hx hb dX2_restPlayer_20 rfl (lv_at hl 2 rfl) ?_
      obtain ⟨r3, er3, hu⟩ := lxb_o hu
      refine hg_ci (va_runSN (As := [.ref t_winds, .int x1]) (rest := []) ⟨hx, hb, hml, hown, hts⟩ (c_X4_at l dC dI cI cZ cM _ t_winds x1 6 t_winds_v (by decide) r3 er3) ⟨va_cnB 2 hts gX2_restPlayer_X4_at_n47 rfl rfl rfl hN.2.2.1 w25 (by decide +kernel) ⟨Nat.le_of_ble_eq_true rfl, Nat.le_of_ble_eq_true rfl⟩, w24, trivial⟩ (hgPreS hP hD hK hN [2] rfl rfl) rfl rfl hl.1 rfl (lv_room (Nat.le_of_ble_eq_true rfl)) dX2_restPlayer_21 ⟨Nat.zero_le _, Nat.zero_le _⟩) hP hD hS hA (wr := [(m_h, .inr (2, [.int m_playing, .int m_paid, .int m_next, .int m_taken, .int m_hat, .int m_time, .ref m_wind])), (t_h, .inr (3, [.int t_players, .int t_bars, .ref t_prices, .ref t_winds, .ref t_kinds, .ref t_looks, .ref t_noises, .ref t_repeats])), (m_wind, .inl (cI, 6, .inl m_wind_v))]) (wf := [(m_h, .inr (2, [.int m_playing, .int m_paid, .int m_next, .int m_taken, .int m_hat, .int m_time, .ref m_wind])), (t_h, .inr (3, [.int t_players, .int t_bars, .ref t_prices, .ref t_winds, .ref t_kinds, .ref t_looks, .ref t_noises, .ref t_repeats])), (t_winds, .inl (cI, 6, .inl t_winds_v)), (m_wind, .inl (cI, 6, .inl m_wind_v))]) [2] [0, 1, 3] [0, 1, 3, 2] rfl rfl rfl (by decide) rfl rfl (fun H locs hP hD hS => ?_)
      refine lv_if_ne (tgt := 29) hx hb dX2_restPlayer_24 (by decide) (fun c_24 => ?_) (fun c_24 => ?_)
      · have hu := hu.trans (if_neg c_24)
        refine lv_aload_n hx hb dX2_restPlayer_29 rfl (lv_at hl 0 rfl) ?_
        refine va_get (D := (dC, dI)) (ci := 2) (v := .ref m_wind) (C := RX2) (T := TX2) (N := 7) hx hb hts hinX2 hown hK hP 0 rfl rfl 6 (by decide) w2 (fun _ h9 => h9) rfl dX2_restPlayer_30 ?_
        refine lv_iload_n hx hb dX2_restPlayer_33 rfl (lv_at hl 2 rfl) ?_
        refine lv_aload_n hx hb dX2_restPlayer_34 rfl (lv_at hl 1 rfl) ?_
        refine va_get (D := (dC, dI)) (ci := 3) (v := .ref t_winds) (C := RX3) (T := TX3) (N := 8) hx hb hts hinX3 hown hK hP 1 rfl rfl 3 (by decide) w1 (fun _ h9 => h9) rfl dX2_restPlayer_35 ?_
        refine lv_iload_n hx hb dX2_restPlayer_38 rfl (lv_at hl 2 rfl) ?_
        obtain ⟨r4, er4, hu⟩ := lxb_o hu
        refine hg_ci (va_runSN (As := [.ref t_winds, .int x1]) (rest := [.int x1, .ref m_wind]) ⟨hx, hb, hml, hown, hts⟩ (c_X4_at l dC dI cI cZ cM _ t_winds x1 6 t_winds_v (by decide) r4 er4) ⟨va_cnB 2 hts gX2_restPlayer_X4_at_n47 rfl rfl rfl hN.2.2.1 w25 (by decide +kernel) ⟨Nat.le_of_ble_eq_true rfl, Nat.le_of_ble_eq_true rfl⟩, w24, trivial⟩ (hgPreS hP hD hK hN [2] rfl rfl) rfl rfl hl.1 rfl (lv_room (Nat.le_of_ble_eq_true rfl)) dX2_restPlayer_39 ⟨Nat.zero_le _, Nat.zero_le _⟩) hP hD hS hA (wr := [(m_h, .inr (2, [.int m_playing, .int m_paid, .int m_next, .int m_taken, .int m_hat, .int m_time, .ref m_wind])), (t_h, .inr (3, [.int t_players, .int t_bars, .ref t_prices, .ref t_winds, .ref t_kinds, .ref t_looks, .ref t_noises, .ref t_repeats])), (m_wind, .inl (cI, 6, .inl m_wind_v))]) (wf := [(m_h, .inr (2, [.int m_playing, .int m_paid, .int m_next, .int m_taken, .int m_hat, .int m_time, .ref m_wind])), (t_h, .inr (3, [.int t_players, .int t_bars, .ref t_prices, .ref t_winds, .ref t_kinds, .ref t_looks, .ref t_noises, .ref t_repeats])), (t_winds, .inl (cI, 6, .inl t_winds_v)), (m_wind, .inl (cI, 6, .inl m_wind_v))]) [2] [0, 1, 3] [0, 1, 3, 2] rfl rfl rfl (by decide) rfl rfl (fun H locs hP hD hS => ?_)
        obtain ⟨r5, er5, hu⟩ := lxb_o hu
        refine hg_cv (va_runSN (As := [.ref m_wind, .int x1, .int r4]) (rest := []) ⟨hx, hb, hml, hown, hts⟩ (c_X4_put l dC dI cI cZ cM _ m_wind x1 r4 6 m_wind_v (by decide) r5 er5) ⟨va_cnB 3 hts gX2_restPlayer_X4_put_n51 rfl rfl rfl hN.2.2.2.1 w25 (by decide +kernel) ⟨Nat.le_of_ble_eq_true rfl, Nat.le_of_ble_eq_true rfl⟩, w27, trivial⟩ (hgPreS hP hD hK hN [3] rfl rfl) rfl rfl hl.1 rfl (lv_room (Nat.le_of_ble_eq_true rfl)) dX2_restPlayer_42 ⟨Nat.zero_le _, Nat.zero_le _⟩) hP hD hS hA (wr := [(m_h, .inr (2, [.int m_playing, .int m_paid, .int m_next, .int m_taken, .int m_hat, .int m_time, .ref m_wind])), (t_h, .inr (3, [.int t_players, .int t_bars, .ref t_prices, .ref t_winds, .ref t_kinds, .ref t_looks, .ref t_noises, .ref t_repeats])), (t_winds, .inl (cI, 6, .inl t_winds_v))]) (wf := [(m_h, .inr (2, [.int m_playing, .int m_paid, .int m_next, .int m_taken, .int m_hat, .int m_time, .ref m_wind])), (t_h, .inr (3, [.int t_players, .int t_bars, .ref t_prices, .ref t_winds, .ref t_kinds, .ref t_looks, .ref t_noises, .ref t_repeats])), (t_winds, .inl (cI, 6, .inl t_winds_v)), (m_wind, .inl (cI, 6, .inl r5))]) [3] [0, 1, 2] [0, 1, 2, 3] rfl rfl rfl (by decide) rfl rfl (fun H locs hP hD hS => ?_)
        refine lv_aload_n hx hb dX2_restPlayer_45 rfl (lv_at hl 0 rfl) ?_
        refine lv_dup hx hb dX2_restPlayer_46 rfl ?_
        refine va_get (D := (dC, dI)) (ci := 2) (v := .int m_playing) (C := RX2) (T := TX2) (N := 7) hx hb hts hinX2 hown hK hP 0 rfl rfl 0 (by decide) w3 (fun _ h9 => h9) rfl dX2_restPlayer_47 ?_
        refine lv_iconst (v := 1) hx hb dX2_restPlayer_50 (by decide) ?_
        refine lv_iload_n hx hb dX2_restPlayer_51 rfl (lv_at hl 2 rfl) ?_
        refine lv_ishl hx hb dX2_restPlayer_52 ?_
        refine lv_ior hx hb dX2_restPlayer_53 ?_
        obtain ⟨y6, ey6, hu⟩ := lxb_o hu
        refine lv_topi (fun z ez => ?_)
        obtain rfl : y6 = z := ey6.trans ez.symm
        refine va_put (D := (dC, dI)) (ci := 2) (v := .int y6) (ty := .int) (C := RX2) (T := TX2) (N := 7) hx hb hts hinX2 tyX2 tyX2_ok nmX2 hown hK hP hD hS 0 rfl rfl 0 (by decide) w3 (fun _ h9 => h9) rfl (by decide +kernel) rfl rfl (Nat.le_of_ble_eq_true rfl) dX2_restPlayer_54 (fun H locs hP hD hS => ?_)
        have hP : va_P (dC, dI) vwCl [(m_h, .inr (2, [.int y6, .int m_paid, .int m_next, .int m_taken, .int m_hat, .int m_time, .ref m_wind])), (t_h, .inr (3, [.int t_players, .int t_bars, .ref t_prices, .ref t_winds, .ref t_kinds, .ref t_looks, .ref t_noises, .ref t_repeats])), (t_winds, .inl (cI, 6, .inl t_winds_v)), (m_wind, .inl (cI, 6, .inl r5))] H := hP
        have hD : va_D A [(m_h, .inr (2, [.int y6, .int m_paid, .int m_next, .int m_taken, .int m_hat, .int m_time, .ref m_wind])), (t_h, .inr (3, [.int t_players, .int t_bars, .ref t_prices, .ref t_winds, .ref t_kinds, .ref t_looks, .ref t_noises, .ref t_repeats])), (t_winds, .inl (cI, 6, .inl t_winds_v)), (m_wind, .inl (cI, 6, .inl r5))] := hD
        refine lv_iconst (v := 1) hx hb dX2_restPlayer_57 (by decide) ?_
        subst hu
        exact hg_rz hx hb hr hlk (by decide) rfl hP hD hS dX2_restPlayer_58
      · have hu := hu.trans (if_pos c_24)
        refine lv_iconst (v := 0) hx hb dX2_restPlayer_27 (by decide) ?_
        subst hu
        exact hg_rz hx hb hr hlk (by decide) rfl hP hD hS dX2_restPlayer_28

set_option maxHeartbeats 4000000 in
set_option maxRecDepth 100000 in
theorem c_X2_beginAgain (l : Launch) (dC : Nat → ClassId) (dI : Nat → Nat → Nat) (cI cZ cM : ClassId) (sz : Nat) (m_h : Nat) (t_h : Nat) (m_playing : Int32) (m_paid : Int32) (m_next : Int32) (m_taken : Int32) (m_hat : Int32) (m_time : Int32) (m_wind : Nat) (t_players : Int32) (t_bars : Int32) (t_prices : Nat) (t_winds : Nat) (t_kinds : Nat) (t_looks : Nat) (t_noises : Nat) (t_repeats : Nat) (u : Int32 × Int32 × Int32) (hu : u = f_X2_beginAgain m_next m_taken t_bars) : Met l yX2_beginAgain wsX2_beginAgain { frames := 0, cells := 0, slots := 0, locals := 0 } (hgPc [.ref m_h, .ref t_h] (dC, dI) cI cZ cM [(m_h, .inr (2, [.int m_playing, .int m_paid, .int m_next, .int m_taken, .int m_hat, .int m_time, .ref m_wind])), (t_h, .inr (3, [.int t_players, .int t_bars, .ref t_prices, .ref t_winds, .ref t_kinds, .ref t_looks, .ref t_noises, .ref t_repeats]))] sz) (hgQi (dC, dI) u.1 [(m_h, .inr (2, [.int m_playing, .int m_paid, .int u.2.1, .int u.2.2, .int m_hat, .int m_time, .ref m_wind])), (t_h, .inr (3, [.int t_players, .int t_bars, .ref t_prices, .ref t_winds, .ref t_kinds, .ref t_looks, .ref t_noises, .ref t_repeats]))] (va_A [(m_h, .inr (2, [.int m_playing, .int m_paid, .int m_next, .int m_taken, .int m_hat, .int m_time, .ref m_wind])), (t_h, .inr (3, [.int t_players, .int t_bars, .ref t_prices, .ref t_winds, .ref t_kinds, .ref t_looks, .ref t_noises, .ref t_repeats]))] sz)) 0 0 (va_A [(m_h, .inr (2, [.int m_playing, .int m_paid, .int m_next, .int m_taken, .int m_hat, .int m_time, .ref m_wind])), (t_h, .inr (3, [.int t_players, .int t_bars, .ref t_prices, .ref t_winds, .ref t_kinds, .ref t_looks, .ref t_noises, .ref t_repeats]))] sz) := by
  refine hg_ofW (cc := cX2_beginAgain) (maxL := 2) (ret := (some .boolean)) (own := RX2) (fun A => hgQi (dC, dI) u.1 [(m_h, .inr (2, [.int m_playing, .int m_paid, .int u.2.1, .int u.2.2, .int m_hat, .int m_time, .ref m_wind])), (t_h, .inr (3, [.int t_players, .int t_bars, .ref t_prices, .ref t_winds, .ref t_kinds, .ref t_looks, .ref t_noises, .ref t_repeats]))] A) rfl (by decide) rfl (Nat.le_of_ble_eq_true rfl) ?_
  intro p e s m below meth c ls A hsz hx hb hr hml hown hts hlk hnm hK hN hA hP hD hS hl
  subst hsz
  have w1 := hts (.fieldLink RX2 67 "HatGoesRound$Told" "bars" "I") (List.mem_of_getElem? (i := 1) rfl)
  have hinX3 : ∀ w ∈ u_ws RX3 TX3 8, w ∈ wsX2_beginAgain := fun _ h => List.mem_cons_of_mem _ (List.mem_append_left _ (List.mem_append_right _ h))
  have w2 := hts (.fieldLink RX2 28 "HatGoesRound$Moment" "next" "I") (List.mem_of_getElem? (i := 2) rfl)
  have hinX2 : ∀ w ∈ u_ws RX2 TX2 7, w ∈ wsX2_beginAgain := fun _ h => List.mem_cons_of_mem _ (List.mem_append_right _ h)
  have w3 := hts (.fieldLink RX2 31 "HatGoesRound$Moment" "taken" "I") (List.mem_of_getElem? (i := 3) rfl)
  have hl : lv_has ls 2 [(0, .ref m_h), (1, .ref t_h)] := hl
  unfold f_X2_beginAgain at hu
  refine lv_aload_n hx hb dX2_beginAgain_0 rfl (lv_at hl 1 rfl) ?_
  refine va_get (D := (dC, dI)) (ci := 3) (v := .int t_bars) (C := RX3) (T := TX3) (N := 8) hx hb hts hinX3 hown hK hP 1 rfl rfl 1 (by decide) w1 (fun _ h9 => h9) rfl dX2_beginAgain_1 ?_
  refine lv_if_ne (tgt := 9) hx hb dX2_beginAgain_4 (by decide) (fun c_4 => ?_) (fun c_4 => ?_)
  · have hu := hu.trans (if_neg c_4)
    refine lv_aload_n hx hb dX2_beginAgain_9 rfl (lv_at hl 0 rfl) ?_
    refine lv_iconst (v := 0) hx hb dX2_beginAgain_10 (by decide) ?_
    refine va_put (D := (dC, dI)) (ci := 2) (v := .int 0) (ty := .int) (C := RX2) (T := TX2) (N := 7) hx hb hts hinX2 tyX2 tyX2_ok nmX2 hown hK hP hD hS 0 rfl rfl 2 (by decide) w2 (fun _ h9 => h9) rfl (by decide +kernel) rfl rfl (Nat.le_of_ble_eq_true rfl) dX2_beginAgain_11 (fun H locs hP hD hS => ?_)
    have hP : va_P (dC, dI) vwCl [(m_h, .inr (2, [.int m_playing, .int m_paid, .int 0, .int m_taken, .int m_hat, .int m_time, .ref m_wind])), (t_h, .inr (3, [.int t_players, .int t_bars, .ref t_prices, .ref t_winds, .ref t_kinds, .ref t_looks, .ref t_noises, .ref t_repeats]))] H := hP
    have hD : va_D A [(m_h, .inr (2, [.int m_playing, .int m_paid, .int 0, .int m_taken, .int m_hat, .int m_time, .ref m_wind])), (t_h, .inr (3, [.int t_players, .int t_bars, .ref t_prices, .ref t_winds, .ref t_kinds, .ref t_looks, .ref t_noises, .ref t_repeats]))] := hD
    refine lv_aload_n hx hb dX2_beginAgain_14 rfl (lv_at hl 0 rfl) ?_
    refine lv_iconst (v := 0) hx hb dX2_beginAgain_15 (by decide) ?_
    refine va_put (D := (dC, dI)) (ci := 2) (v := .int 0) (ty := .int) (C := RX2) (T := TX2) (N := 7) hx hb hts hinX2 tyX2 tyX2_ok nmX2 hown hK hP hD hS 0 rfl rfl 3 (by decide) w3 (fun _ h9 => h9) rfl (by decide +kernel) rfl rfl (Nat.le_of_ble_eq_true rfl) dX2_beginAgain_16 (fun H locs hP hD hS => ?_)
    have hP : va_P (dC, dI) vwCl [(m_h, .inr (2, [.int m_playing, .int m_paid, .int 0, .int 0, .int m_hat, .int m_time, .ref m_wind])), (t_h, .inr (3, [.int t_players, .int t_bars, .ref t_prices, .ref t_winds, .ref t_kinds, .ref t_looks, .ref t_noises, .ref t_repeats]))] H := hP
    have hD : va_D A [(m_h, .inr (2, [.int m_playing, .int m_paid, .int 0, .int 0, .int m_hat, .int m_time, .ref m_wind])), (t_h, .inr (3, [.int t_players, .int t_bars, .ref t_prices, .ref t_winds, .ref t_kinds, .ref t_looks, .ref t_noises, .ref t_repeats]))] := hD
    refine lv_iconst (v := 1) hx hb dX2_beginAgain_19 (by decide) ?_
    subst hu
    exact hg_rz hx hb hr hlk (by decide) rfl hP hD hS dX2_beginAgain_20
  · have hu := hu.trans (if_pos c_4)
    refine lv_iconst (v := 0) hx hb dX2_beginAgain_7 (by decide) ?_
    subst hu
    exact hg_rz hx hb hr hlk (by decide) rfl hP hD hS dX2_beginAgain_8

set_option maxHeartbeats 4000000 in
set_option maxRecDepth 100000 in
theorem c_X2_doIfItCanBe (l : Launch) (dC : Nat → ClassId) (dI : Nat → Nat → Nat) (cI cZ cM : ClassId) (sz : Nat) (m_h : Nat) (t_h : Nat) (x1 : Int32) (m_playing : Int32) (m_paid : Int32) (m_next : Int32) (m_taken : Int32) (m_hat : Int32) (m_time : Int32) (m_wind : Nat) (t_players : Int32) (t_bars : Int32) (t_prices : Nat) (t_winds : Nat) (t_kinds : Nat) (t_looks : Nat) (t_noises : Nat) (t_repeats : Nat) (t_noises_v : Nat → Int32) (t_kinds_v : Nat → Int32) (m_wind_v : Nat → Int32) (t_looks_v : Nat → Int32) (t_repeats_v : Nat → Int32) (t_prices_v : Nat → Int32) (t_winds_v : Nat → Int32) (u : Int32 × Int32 × Int32 × Int32 × Int32 × Int32 × Int32 × (Nat → Int32)) (hu : u = f_X2_doIfItCanBe x1 m_playing m_paid m_next m_taken m_hat m_time t_players t_bars t_noises_v t_kinds_v m_wind_v t_looks_v t_repeats_v t_prices_v t_winds_v) : Met l yX2_doIfItCanBe wsX2_doIfItCanBe { frames := 4, cells := 0, slots := 0, locals := 88 } (hgPc [.ref m_h, .ref t_h, .int x1] (dC, dI) cI cZ cM [(m_h, .inr (2, [.int m_playing, .int m_paid, .int m_next, .int m_taken, .int m_hat, .int m_time, .ref m_wind])), (t_h, .inr (3, [.int t_players, .int t_bars, .ref t_prices, .ref t_winds, .ref t_kinds, .ref t_looks, .ref t_noises, .ref t_repeats])), (t_noises, .inl (cI, 8, .inl t_noises_v)), (t_kinds, .inl (cI, 6, .inl t_kinds_v)), (m_wind, .inl (cI, 6, .inl m_wind_v)), (t_looks, .inl (cI, 6, .inl t_looks_v)), (t_repeats, .inl (cI, 8, .inl t_repeats_v)), (t_prices, .inl (cI, 6, .inl t_prices_v)), (t_winds, .inl (cI, 6, .inl t_winds_v))] sz) (hgQi (dC, dI) u.1 [(m_h, .inr (2, [.int u.2.1, .int u.2.2.1, .int u.2.2.2.1, .int u.2.2.2.2.1, .int u.2.2.2.2.2.1, .int u.2.2.2.2.2.2.1, .ref m_wind])), (t_h, .inr (3, [.int t_players, .int t_bars, .ref t_prices, .ref t_winds, .ref t_kinds, .ref t_looks, .ref t_noises, .ref t_repeats])), (t_noises, .inl (cI, 8, .inl t_noises_v)), (t_kinds, .inl (cI, 6, .inl t_kinds_v)), (m_wind, .inl (cI, 6, .inl u.2.2.2.2.2.2.2)), (t_looks, .inl (cI, 6, .inl t_looks_v)), (t_repeats, .inl (cI, 8, .inl t_repeats_v)), (t_prices, .inl (cI, 6, .inl t_prices_v)), (t_winds, .inl (cI, 6, .inl t_winds_v))] (va_A [(m_h, .inr (2, [.int m_playing, .int m_paid, .int m_next, .int m_taken, .int m_hat, .int m_time, .ref m_wind])), (t_h, .inr (3, [.int t_players, .int t_bars, .ref t_prices, .ref t_winds, .ref t_kinds, .ref t_looks, .ref t_noises, .ref t_repeats])), (t_noises, .inl (cI, 8, .inl t_noises_v)), (t_kinds, .inl (cI, 6, .inl t_kinds_v)), (m_wind, .inl (cI, 6, .inl m_wind_v)), (t_looks, .inl (cI, 6, .inl t_looks_v)), (t_repeats, .inl (cI, 8, .inl t_repeats_v)), (t_prices, .inl (cI, 6, .inl t_prices_v)), (t_winds, .inl (cI, 6, .inl t_winds_v))] sz)) 0 0 (va_A [(m_h, .inr (2, [.int m_playing, .int m_paid, .int m_next, .int m_taken, .int m_hat, .int m_time, .ref m_wind])), (t_h, .inr (3, [.int t_players, .int t_bars, .ref t_prices, .ref t_winds, .ref t_kinds, .ref t_looks, .ref t_noises, .ref t_repeats])), (t_noises, .inl (cI, 8, .inl t_noises_v)), (t_kinds, .inl (cI, 6, .inl t_kinds_v)), (m_wind, .inl (cI, 6, .inl m_wind_v)), (t_looks, .inl (cI, 6, .inl t_looks_v)), (t_repeats, .inl (cI, 8, .inl t_repeats_v)), (t_prices, .inl (cI, 6, .inl t_prices_v)), (t_winds, .inl (cI, 6, .inl t_winds_v))] sz) := by
  refine hg_ofW (cc := cX2_doIfItCanBe) (maxL := 5) (ret := (some .boolean)) (own := RX2) (fun A => hgQi (dC, dI) u.1 [(m_h, .inr (2, [.int u.2.1, .int u.2.2.1, .int u.2.2.2.1, .int u.2.2.2.2.1, .int u.2.2.2.2.2.1, .int u.2.2.2.2.2.2.1, .ref m_wind])), (t_h, .inr (3, [.int t_players, .int t_bars, .ref t_prices, .ref t_winds, .ref t_kinds, .ref t_looks, .ref t_noises, .ref t_repeats])), (t_noises, .inl (cI, 8, .inl t_noises_v)), (t_kinds, .inl (cI, 6, .inl t_kinds_v)), (m_wind, .inl (cI, 6, .inl u.2.2.2.2.2.2.2)), (t_looks, .inl (cI, 6, .inl t_looks_v)), (t_repeats, .inl (cI, 8, .inl t_repeats_v)), (t_prices, .inl (cI, 6, .inl t_prices_v)), (t_winds, .inl (cI, 6, .inl t_winds_v))] A) rfl (by decide) rfl (Nat.le_of_ble_eq_true rfl) ?_
  intro p e s m below meth c ls A hsz hx hb hr hml hown hts hlk hnm hK hN hA hP hD hS hl
  subst hsz
  have w1 := hts (.fieldLink RX2 34 "HatGoesRound$Moment" "hat" "I") (List.mem_of_getElem? (i := 1) rfl)
  have hinX2 : ∀ w ∈ u_ws RX2 TX2 7, w ∈ wsX2_doIfItCanBe := fun _ h => List.mem_cons_of_mem _ (List.mem_append_left _ (List.mem_append_right _ h))
  have hl : lv_has ls 5 [(0, .ref m_h), (1, .ref t_h), (2, .int x1)] := hl
  unfold f_X2_doIfItCanBe at hu
  refine lv_iload_n hx hb dX2_doIfItCanBe_0 rfl (lv_at hl 2 rfl) ?_
  refine lv_bipush (v := 100) hx hb dX2_doIfItCanBe_1 (by decide) ?_
  refine lv_idiv hx hb dX2_doIfItCanBe_3 (by decide) ?_
  refine lv_istore_n (lv' := [(3, .int (x1 / 100)), (0, .ref m_h), (1, .ref t_h), (2, .int x1)]) hx hb dX2_doIfItCanBe_4 rfl hl (by decide) rfl (fun ls hl => ?_)
  refine lv_iload_n hx hb dX2_doIfItCanBe_5 rfl (lv_at hl 3 rfl) ?_
  refine lv_bipush (v := 10) hx hb dX2_doIfItCanBe_6 (by decide) ?_
  refine lv_irem hx hb dX2_doIfItCanBe_8 (by decide) ?_
  refine lv_istore (lv' := [(4, .int (x1 - x1 / 10 * 10)), (3, .int (x1 / 100)), (0, .ref m_h), (1, .ref t_h), (2, .int x1)]) hx hb dX2_doIfItCanBe_9 hl (by decide) rfl (fun ls hl => ?_)
  refine lv_iload_n hx hb dX2_doIfItCanBe_11 rfl (lv_at hl 1 rfl) ?_
  refine lv_iconst (v := 5) hx hb dX2_doIfItCanBe_12 (by decide) ?_
  refine lv_icmp_ne (tgt := 33) hx hb dX2_doIfItCanBe_13 (by decide) (fun c_13 => ?_) (fun c_13 => ?_)
  · have hu := hu.trans (if_neg c_13)
    refine lv_iload_n hx hb dX2_doIfItCanBe_33 rfl (lv_at hl 4 rfl) ?_
    refine lv_bipush (v := 10) hx hb dX2_doIfItCanBe_34 (by decide) ?_
    refine lv_idiv hx hb dX2_doIfItCanBe_36 (by decide) ?_
    refine lv_bipush (v := 10) hx hb dX2_doIfItCanBe_37 (by decide) ?_
    refine lv_irem hx hb dX2_doIfItCanBe_39 (by decide) ?_
    refine lv_if_eq (tgt := 45) hx hb dX2_doIfItCanBe_40 (by decide) (fun c_40 => ?_) (fun c_40 => ?_)
    · have hu := hu.trans (if_pos c_40)
      refine lv_iload_n hx hb dX2_doIfItCanBe_45 rfl (lv_at hl 1 rfl) ?_
      by_cases c_46_0 : (x1 / 100) = 0
      · have hu := hu.trans (if_pos c_46_0)
        refine lv_tableIn (off := 34) (tgt := 80) hx hb dX2_doIfItCanBe_46 (by rw [c_46_0]; decide) (by rw [c_46_0]; decide) (by rw [c_46_0]; rfl) (by decide) ?_
        refine lv_iload hx hb dX2_doIfItCanBe_80 (lv_at hl 0 rfl) ?_
        refine lv_if_ne (tgt := 97) hx hb dX2_doIfItCanBe_82 (by decide) (fun c_82 => ?_) (fun c_82 => ?_)
        · have hu := hu.trans (if_neg c_82)
          refine lv_iconst (v := 0) hx hb dX2_doIfItCanBe_97 (by decide) ?_
          subst hu
          exact hg_rz hx hb hr hlk (by decide) rfl hP hD hS dX2_doIfItCanBe_98
        · have hu := hu.trans (if_pos c_82)
          refine lv_aload_n hx hb dX2_doIfItCanBe_85 rfl (lv_at hl 2 rfl) ?_
          refine lv_aload_n hx hb dX2_doIfItCanBe_86 rfl (lv_at hl 3 rfl) ?_
          obtain ⟨r1, er1, hu⟩ := lxb_o hu
          refine hg_ci (va_runV (As := [.ref t_h]) (rest := []) ⟨hx, hb, hml, hown, hts⟩ (c_X2_playBar l dC dI cI cZ cM _ m_h t_h m_playing m_paid m_next m_taken m_hat m_time m_wind t_players t_bars t_prices t_winds t_kinds t_looks t_noises t_repeats t_noises_v t_kinds_v m_wind_v t_looks_v t_repeats_v r1 er1) (cwV 1 hts gX2_doIfItCanBe_X2_playBar rfl rfl rfl (by decide +kernel) ⟨Nat.le_of_ble_eq_true rfl, Nat.le_of_ble_eq_true rfl⟩) (hgPreV (C := RX2) (T := TX2) (N := 7) (ci := 2) (q0 := 0) hP hD hK hN [0, 1, 2, 3, 4, 5, 6] rfl rfl rfl rfl) rfl rfl hl.1 rfl (lv_room (Nat.le_of_ble_eq_true rfl)) dX2_doIfItCanBe_87 ⟨Nat.zero_le _, Nat.zero_le _⟩) hP hD hS hA (wr := [(t_prices, .inl (cI, 6, .inl t_prices_v)), (t_winds, .inl (cI, 6, .inl t_winds_v))]) (wf := [(m_h, .inr (2, [.int r1.2.1, .int m_paid, .int r1.2.2.1, .int r1.2.2.2.1, .int m_hat, .int r1.2.2.2.2.1, .ref m_wind])), (t_h, .inr (3, [.int t_players, .int t_bars, .ref t_prices, .ref t_winds, .ref t_kinds, .ref t_looks, .ref t_noises, .ref t_repeats])), (t_noises, .inl (cI, 8, .inl t_noises_v)), (t_kinds, .inl (cI, 6, .inl t_kinds_v)), (m_wind, .inl (cI, 6, .inl r1.2.2.2.2.2)), (t_looks, .inl (cI, 6, .inl t_looks_v)), (t_repeats, .inl (cI, 8, .inl t_repeats_v)), (t_prices, .inl (cI, 6, .inl t_prices_v)), (t_winds, .inl (cI, 6, .inl t_winds_v))]) [0, 1, 2, 3, 4, 5, 6] [7, 8] [2, 3, 4, 5, 6, 7, 8, 0, 1] rfl rfl rfl (by decide) rfl rfl (fun H locs hP hD hS => ?_)
          refine lv_if_eq (tgt := 97) hx hb dX2_doIfItCanBe_90 (by decide) (fun c_90 => ?_) (fun c_90 => ?_)
          · have hu := hu.trans (if_pos c_90)
            refine lv_iconst (v := 0) hx hb dX2_doIfItCanBe_97 (by decide) ?_
            subst hu
            exact hg_rz hx hb hr hlk (by decide) rfl hP hD hS dX2_doIfItCanBe_98
          · have hu := hu.trans (if_neg c_90)
            refine lv_iconst (v := 1) hx hb dX2_doIfItCanBe_93 (by decide) ?_
            refine lv_goto (tgt := 98) hx hb dX2_doIfItCanBe_94 (by decide) ?_
            subst hu
            exact hg_rz hx hb hr hlk (by decide) rfl hP hD hS dX2_doIfItCanBe_98
      · have hu := hu.trans (if_neg c_46_0)
        by_cases c_46_1 : (x1 / 100) = 1
        · have hu := hu.trans (if_pos c_46_1)
          refine lv_tableIn (off := 53) (tgt := 99) hx hb dX2_doIfItCanBe_46 (by rw [c_46_1]; decide) (by rw [c_46_1]; decide) (by rw [c_46_1]; rfl) (by decide) ?_
          refine lv_aload_n hx hb dX2_doIfItCanBe_99 rfl (lv_at hl 2 rfl) ?_
          refine lv_iload hx hb dX2_doIfItCanBe_100 (lv_at hl 0 rfl) ?_
          obtain ⟨r2, er2, hu⟩ := lxb_o hu
          refine hg_ci (va_runV (As := [.int (x1 - x1 / 10 * 10)]) (rest := []) ⟨hx, hb, hml, hown, hts⟩ (c_X2_takeGift l dC dI cI cZ cM _ m_h (x1 - x1 / 10 * 10) m_playing m_paid m_next m_taken m_hat m_time m_wind r2 er2) (cwV 1 hts gX2_doIfItCanBe_X2_takeGift rfl rfl rfl (by decide +kernel) ⟨Nat.le_of_ble_eq_true rfl, Nat.le_of_ble_eq_true rfl⟩) (hgPreV (C := RX2) (T := TX2) (N := 7) (ci := 2) (q0 := 0) hP hD hK hN [0] rfl rfl rfl rfl) rfl rfl hl.1 rfl (lv_room (Nat.le_of_ble_eq_true rfl)) dX2_doIfItCanBe_102 ⟨Nat.zero_le _, Nat.zero_le _⟩) hP hD hS hA (wr := [(t_h, .inr (3, [.int t_players, .int t_bars, .ref t_prices, .ref t_winds, .ref t_kinds, .ref t_looks, .ref t_noises, .ref t_repeats])), (t_noises, .inl (cI, 8, .inl t_noises_v)), (t_kinds, .inl (cI, 6, .inl t_kinds_v)), (m_wind, .inl (cI, 6, .inl m_wind_v)), (t_looks, .inl (cI, 6, .inl t_looks_v)), (t_repeats, .inl (cI, 8, .inl t_repeats_v)), (t_prices, .inl (cI, 6, .inl t_prices_v)), (t_winds, .inl (cI, 6, .inl t_winds_v))]) (wf := [(m_h, .inr (2, [.int m_playing, .int m_paid, .int m_next, .int m_taken, .int r2.2, .int m_time, .ref m_wind])), (t_h, .inr (3, [.int t_players, .int t_bars, .ref t_prices, .ref t_winds, .ref t_kinds, .ref t_looks, .ref t_noises, .ref t_repeats])), (t_noises, .inl (cI, 8, .inl t_noises_v)), (t_kinds, .inl (cI, 6, .inl t_kinds_v)), (m_wind, .inl (cI, 6, .inl m_wind_v)), (t_looks, .inl (cI, 6, .inl t_looks_v)), (t_repeats, .inl (cI, 8, .inl t_repeats_v)), (t_prices, .inl (cI, 6, .inl t_prices_v)), (t_winds, .inl (cI, 6, .inl t_winds_v))]) [0] [1, 2, 3, 4, 5, 6, 7, 8] [8, 0, 1, 2, 3, 4, 5, 6, 7] rfl rfl rfl (by decide) rfl rfl (fun H locs hP hD hS => ?_)
          subst hu
          exact hg_rz hx hb hr hlk (z_X2_takeGift er2) rfl hP hD hS dX2_doIfItCanBe_105
        · have hu := hu.trans (if_neg c_46_1)
          by_cases c_46_2 : (x1 / 100) = 2
          · have hu := hu.trans (if_pos c_46_2)
            refine lv_tableIn (off := 60) (tgt := 106) hx hb dX2_doIfItCanBe_46 (by rw [c_46_2]; decide) (by rw [c_46_2]; decide) (by rw [c_46_2]; rfl) (by decide) ?_
            refine lv_aload_n hx hb dX2_doIfItCanBe_106 rfl (lv_at hl 2 rfl) ?_
            refine lv_aload_n hx hb dX2_doIfItCanBe_107 rfl (lv_at hl 3 rfl) ?_
            refine lv_iload hx hb dX2_doIfItCanBe_108 (lv_at hl 0 rfl) ?_
            obtain ⟨r3, er3, hu⟩ := lxb_o hu
            refine hg_ci (va_runV (As := [.ref t_h, .int (x1 - x1 / 10 * 10)]) (rest := []) ⟨hx, hb, hml, hown, hts⟩ (c_X2_payFromHat l dC dI cI cZ cM _ m_h t_h (x1 - x1 / 10 * 10) m_playing m_paid m_next m_taken m_hat m_time m_wind t_players t_bars t_prices t_winds t_kinds t_looks t_noises t_repeats t_prices_v r3 er3) (cwV 2 hts gX2_doIfItCanBe_X2_payFromHat rfl rfl rfl (by decide +kernel) ⟨Nat.le_of_ble_eq_true rfl, Nat.le_of_ble_eq_true rfl⟩) (hgPreV (C := RX2) (T := TX2) (N := 7) (ci := 2) (q0 := 0) hP hD hK hN [0, 1, 7] rfl rfl rfl rfl) rfl rfl hl.1 rfl (lv_room (Nat.le_of_ble_eq_true rfl)) dX2_doIfItCanBe_110 ⟨Nat.zero_le _, Nat.zero_le _⟩) hP hD hS hA (wr := [(t_noises, .inl (cI, 8, .inl t_noises_v)), (t_kinds, .inl (cI, 6, .inl t_kinds_v)), (m_wind, .inl (cI, 6, .inl m_wind_v)), (t_looks, .inl (cI, 6, .inl t_looks_v)), (t_repeats, .inl (cI, 8, .inl t_repeats_v)), (t_winds, .inl (cI, 6, .inl t_winds_v))]) (wf := [(m_h, .inr (2, [.int r3.2.1, .int r3.2.2.1, .int m_next, .int m_taken, .int r3.2.2.2, .int m_time, .ref m_wind])), (t_h, .inr (3, [.int t_players, .int t_bars, .ref t_prices, .ref t_winds, .ref t_kinds, .ref t_looks, .ref t_noises, .ref t_repeats])), (t_noises, .inl (cI, 8, .inl t_noises_v)), (t_kinds, .inl (cI, 6, .inl t_kinds_v)), (m_wind, .inl (cI, 6, .inl m_wind_v)), (t_looks, .inl (cI, 6, .inl t_looks_v)), (t_repeats, .inl (cI, 8, .inl t_repeats_v)), (t_prices, .inl (cI, 6, .inl t_prices_v)), (t_winds, .inl (cI, 6, .inl t_winds_v))]) [0, 1, 7] [2, 3, 4, 5, 6, 8] [6, 7, 0, 1, 2, 3, 4, 8, 5] rfl rfl rfl (by decide) rfl rfl (fun H locs hP hD hS => ?_)
            subst hu
            exact hg_rz hx hb hr hlk (z_X2_payFromHat er3) rfl hP hD hS dX2_doIfItCanBe_113
          · have hu := hu.trans (if_neg c_46_2)
            by_cases c_46_3 : (x1 / 100) = 3
            · have hu := hu.trans (if_pos c_46_3)
              refine lv_tableIn (off := 68) (tgt := 114) hx hb dX2_doIfItCanBe_46 (by rw [c_46_3]; decide) (by rw [c_46_3]; decide) (by rw [c_46_3]; rfl) (by decide) ?_
              refine lv_aload_n hx hb dX2_doIfItCanBe_114 rfl (lv_at hl 2 rfl) ?_
              refine lv_aload_n hx hb dX2_doIfItCanBe_115 rfl (lv_at hl 3 rfl) ?_
              refine lv_iload hx hb dX2_doIfItCanBe_116 (lv_at hl 0 rfl) ?_
              obtain ⟨r4, er4, hu⟩ := lxb_o hu
              refine hg_ci (va_runV (As := [.ref t_h, .int (x1 - x1 / 10 * 10)]) (rest := []) ⟨hx, hb, hml, hown, hts⟩ (c_X2_restPlayer l dC dI cI cZ cM _ m_h t_h (x1 - x1 / 10 * 10) m_playing m_paid m_next m_taken m_hat m_time m_wind t_players t_bars t_prices t_winds t_kinds t_looks t_noises t_repeats t_winds_v m_wind_v r4 er4) (cwV 2 hts gX2_doIfItCanBe_X2_restPlayer rfl rfl rfl (by decide +kernel) ⟨Nat.le_of_ble_eq_true rfl, Nat.le_of_ble_eq_true rfl⟩) (hgPreV (C := RX2) (T := TX2) (N := 7) (ci := 2) (q0 := 0) hP hD hK hN [0, 1, 8, 4] rfl rfl rfl rfl) rfl rfl hl.1 rfl (lv_room (Nat.le_of_ble_eq_true rfl)) dX2_doIfItCanBe_118 ⟨Nat.zero_le _, Nat.zero_le _⟩) hP hD hS hA (wr := [(t_noises, .inl (cI, 8, .inl t_noises_v)), (t_kinds, .inl (cI, 6, .inl t_kinds_v)), (t_looks, .inl (cI, 6, .inl t_looks_v)), (t_repeats, .inl (cI, 8, .inl t_repeats_v)), (t_prices, .inl (cI, 6, .inl t_prices_v))]) (wf := [(m_h, .inr (2, [.int r4.2.1, .int m_paid, .int m_next, .int m_taken, .int m_hat, .int m_time, .ref m_wind])), (t_h, .inr (3, [.int t_players, .int t_bars, .ref t_prices, .ref t_winds, .ref t_kinds, .ref t_looks, .ref t_noises, .ref t_repeats])), (t_noises, .inl (cI, 8, .inl t_noises_v)), (t_kinds, .inl (cI, 6, .inl t_kinds_v)), (m_wind, .inl (cI, 6, .inl r4.2.2)), (t_looks, .inl (cI, 6, .inl t_looks_v)), (t_repeats, .inl (cI, 8, .inl t_repeats_v)), (t_prices, .inl (cI, 6, .inl t_prices_v)), (t_winds, .inl (cI, 6, .inl t_winds_v))]) [0, 1, 8, 4] [2, 3, 5, 6, 7] [5, 6, 0, 1, 8, 2, 3, 4, 7] rfl rfl rfl (by decide) rfl rfl (fun H locs hP hD hS => ?_)
              subst hu
              exact hg_rz hx hb hr hlk (z_X2_restPlayer er4) rfl hP hD hS dX2_doIfItCanBe_121
            · have hu := hu.trans (if_neg c_46_3)
              by_cases c_46_4 : (x1 / 100) = 4
              · have hu := hu.trans (if_pos c_46_4)
                refine lv_tableIn (off := 76) (tgt := 122) hx hb dX2_doIfItCanBe_46 (by rw [c_46_4]; decide) (by rw [c_46_4]; decide) (by rw [c_46_4]; rfl) (by decide) ?_
                refine lv_aload_n hx hb dX2_doIfItCanBe_122 rfl (lv_at hl 3 rfl) ?_
                refine lv_iload hx hb dX2_doIfItCanBe_123 (lv_at hl 0 rfl) ?_
                obtain ⟨r5, er5, hu⟩ := lxb_o hu
                refine hg_ci (va_runV (As := [.int (x1 - x1 / 10 * 10)]) (rest := []) ⟨hx, hb, hml, hown, hts⟩ (c_X3_hasPlayer l dC dI cI cZ cM _ t_h (x1 - x1 / 10 * 10) t_players t_bars t_prices t_winds t_kinds t_looks t_noises t_repeats r5 er5) (cwV 1 hts gX2_doIfItCanBe_X3_hasPlayer rfl rfl rfl (by decide +kernel) ⟨Nat.le_of_ble_eq_true rfl, Nat.le_of_ble_eq_true rfl⟩) (hgPreV (C := RX3) (T := TX3) (N := 8) (ci := 3) (q0 := 1) hP hD hK hN [1] rfl rfl rfl rfl) rfl rfl hl.1 rfl (lv_room (Nat.le_of_ble_eq_true rfl)) dX2_doIfItCanBe_125 ⟨Nat.zero_le _, Nat.zero_le _⟩) hP hD hS hA (wr := [(m_h, .inr (2, [.int m_playing, .int m_paid, .int m_next, .int m_taken, .int m_hat, .int m_time, .ref m_wind])), (t_noises, .inl (cI, 8, .inl t_noises_v)), (t_kinds, .inl (cI, 6, .inl t_kinds_v)), (m_wind, .inl (cI, 6, .inl m_wind_v)), (t_looks, .inl (cI, 6, .inl t_looks_v)), (t_repeats, .inl (cI, 8, .inl t_repeats_v)), (t_prices, .inl (cI, 6, .inl t_prices_v)), (t_winds, .inl (cI, 6, .inl t_winds_v))]) (wf := [(m_h, .inr (2, [.int m_playing, .int m_paid, .int m_next, .int m_taken, .int m_hat, .int m_time, .ref m_wind])), (t_h, .inr (3, [.int t_players, .int t_bars, .ref t_prices, .ref t_winds, .ref t_kinds, .ref t_looks, .ref t_noises, .ref t_repeats])), (t_noises, .inl (cI, 8, .inl t_noises_v)), (t_kinds, .inl (cI, 6, .inl t_kinds_v)), (m_wind, .inl (cI, 6, .inl m_wind_v)), (t_looks, .inl (cI, 6, .inl t_looks_v)), (t_repeats, .inl (cI, 8, .inl t_repeats_v)), (t_prices, .inl (cI, 6, .inl t_prices_v)), (t_winds, .inl (cI, 6, .inl t_winds_v))]) [1] [0, 2, 3, 4, 5, 6, 7, 8] [0, 8, 1, 2, 3, 4, 5, 6, 7] rfl rfl rfl (by decide) rfl rfl (fun H locs hP hD hS => ?_)
                refine lv_if_eq (tgt := 144) hx hb dX2_doIfItCanBe_128 (by decide) (fun c_128 => ?_) (fun c_128 => ?_)
                · have hu := hu.trans (if_pos c_128)
                  refine lv_iconst (v := 0) hx hb dX2_doIfItCanBe_144 (by decide) ?_
                  subst hu
                  exact hg_rz hx hb hr hlk (by decide) rfl hP hD hS dX2_doIfItCanBe_145
                · have hu := hu.trans (if_neg c_128)
                  refine lv_aload_n hx hb dX2_doIfItCanBe_131 rfl (lv_at hl 2 rfl) ?_
                  refine lv_iload hx hb dX2_doIfItCanBe_132 (lv_at hl 0 rfl) ?_
                  obtain ⟨r6, er6, hu⟩ := lxb_o hu
                  refine hg_ci (va_runV (As := [.int (x1 - x1 / 10 * 10)]) (rest := []) ⟨hx, hb, hml, hown, hts⟩ (c_X2_isPlaying l dC dI cI cZ cM _ m_h (x1 - x1 / 10 * 10) m_playing m_paid m_next m_taken m_hat m_time m_wind r6 er6) (cwV 1 hts gX2_doIfItCanBe_X2_isPlaying rfl rfl rfl (by decide +kernel) ⟨Nat.le_of_ble_eq_true rfl, Nat.le_of_ble_eq_true rfl⟩) (hgPreV (C := RX2) (T := TX2) (N := 7) (ci := 2) (q0 := 0) hP hD hK hN [0] rfl rfl rfl rfl) rfl rfl hl.1 rfl (lv_room (Nat.le_of_ble_eq_true rfl)) dX2_doIfItCanBe_134 ⟨Nat.zero_le _, Nat.zero_le _⟩) hP hD hS hA (wr := [(t_h, .inr (3, [.int t_players, .int t_bars, .ref t_prices, .ref t_winds, .ref t_kinds, .ref t_looks, .ref t_noises, .ref t_repeats])), (t_noises, .inl (cI, 8, .inl t_noises_v)), (t_kinds, .inl (cI, 6, .inl t_kinds_v)), (m_wind, .inl (cI, 6, .inl m_wind_v)), (t_looks, .inl (cI, 6, .inl t_looks_v)), (t_repeats, .inl (cI, 8, .inl t_repeats_v)), (t_prices, .inl (cI, 6, .inl t_prices_v)), (t_winds, .inl (cI, 6, .inl t_winds_v))]) (wf := [(m_h, .inr (2, [.int m_playing, .int m_paid, .int m_next, .int m_taken, .int m_hat, .int m_time, .ref m_wind])), (t_h, .inr (3, [.int t_players, .int t_bars, .ref t_prices, .ref t_winds, .ref t_kinds, .ref t_looks, .ref t_noises, .ref t_repeats])), (t_noises, .inl (cI, 8, .inl t_noises_v)), (t_kinds, .inl (cI, 6, .inl t_kinds_v)), (m_wind, .inl (cI, 6, .inl m_wind_v)), (t_looks, .inl (cI, 6, .inl t_looks_v)), (t_repeats, .inl (cI, 8, .inl t_repeats_v)), (t_prices, .inl (cI, 6, .inl t_prices_v)), (t_winds, .inl (cI, 6, .inl t_winds_v))]) [0] [1, 2, 3, 4, 5, 6, 7, 8] [8, 0, 1, 2, 3, 4, 5, 6, 7] rfl rfl rfl (by decide) rfl rfl (fun H locs hP hD hS => ?_)
                  refine lv_if_eq (tgt := 144) hx hb dX2_doIfItCanBe_137 (by decide) (fun c_137 => ?_) (fun c_137 => ?_)
                  · have hu := hu.trans (if_pos c_137)
                    refine lv_iconst (v := 0) hx hb dX2_doIfItCanBe_144 (by decide) ?_
                    subst hu
                    exact hg_rz hx hb hr hlk (by decide) rfl hP hD hS dX2_doIfItCanBe_145
                  · have hu := hu.trans (if_neg c_137)
                    refine lv_iconst (v := 1) hx hb dX2_doIfItCanBe_140 (by decide) ?_
                    refine lv_goto (tgt := 145) hx hb dX2_doIfItCanBe_141 (by decide) ?_
                    subst hu
                    exact hg_rz hx hb hr hlk (by decide) rfl hP hD hS dX2_doIfItCanBe_145
              · have hu := hu.trans (if_neg c_46_4)
                refine lv_tableOut (tgt := 146) hx hb dX2_doIfItCanBe_46 (hg_tout (lo := 0) (hi := 4) (fun j h1 h2 e => by rcases (show j = 0 ∨ j = 1 ∨ j = 2 ∨ j = 3 ∨ j = 4 by omega) with rfl | rfl | rfl | rfl | rfl <;> first | exact c_46_0 e | exact c_46_1 e | exact c_46_2 e | exact c_46_3 e | exact c_46_4 e)) (by decide) ?_
                refine lv_iconst (v := 0) hx hb dX2_doIfItCanBe_146 (by decide) ?_
                subst hu
                exact hg_rz hx hb hr hlk (by decide) rfl hP hD hS dX2_doIfItCanBe_147
    · have hu := hu.trans (if_neg c_40)
      refine lv_iconst (v := 0) hx hb dX2_doIfItCanBe_43 (by decide) ?_
      subst hu
      exact hg_rz hx hb hr hlk (by decide) rfl hP hD hS dX2_doIfItCanBe_44
  · have hu := hu.trans (if_pos c_13)
    refine lv_aload_n hx hb dX2_doIfItCanBe_16 rfl (lv_at hl 2 rfl) ?_
    refine va_get (D := (dC, dI)) (ci := 2) (v := .int m_hat) (C := RX2) (T := TX2) (N := 7) hx hb hts hinX2 hown hK hP 0 rfl rfl 4 (by decide) w1 (fun _ h9 => h9) rfl dX2_doIfItCanBe_17 ?_
    refine lv_iload_n hx hb dX2_doIfItCanBe_20 rfl (lv_at hl 4 rfl) ?_
    refine lv_bipush (v := 100) hx hb dX2_doIfItCanBe_21 (by decide) ?_
    refine lv_irem hx hb dX2_doIfItCanBe_23 (by decide) ?_
    refine lv_icmp_lt (tgt := 31) hx hb dX2_doIfItCanBe_24 (by decide) (fun c_24 => ?_) (fun c_24 => ?_)
    · have hu := hu.trans (if_pos c_24)
      refine lv_iconst (v := 0) hx hb dX2_doIfItCanBe_31 (by decide) ?_
      subst hu
      exact hg_rz hx hb hr hlk (by decide) rfl hP hD hS dX2_doIfItCanBe_32
    · have hu := hu.trans (if_neg c_24)
      refine lv_iconst (v := 1) hx hb dX2_doIfItCanBe_27 (by decide) ?_
      refine lv_goto (tgt := 32) hx hb dX2_doIfItCanBe_28 (by decide) ?_
      subst hu
      exact hg_rz hx hb hr hlk (by decide) rfl hP hD hS dX2_doIfItCanBe_32

set_option maxHeartbeats 4000000 in
set_option maxRecDepth 100000 in
theorem c_X2_doByChance (l : Launch) (dC : Nat → ClassId) (dI : Nat → Nat → Nat) (cI cZ cM : ClassId) (sz : Nat) (m_h : Nat) (t_h : Nat) (x1 : Int32) (m_playing : Int32) (m_paid : Int32) (m_next : Int32) (m_taken : Int32) (m_hat : Int32) (m_time : Int32) (m_wind : Nat) (t_players : Int32) (t_bars : Int32) (t_prices : Nat) (t_winds : Nat) (t_kinds : Nat) (t_looks : Nat) (t_noises : Nat) (t_repeats : Nat) (t_noises_v : Nat → Int32) (t_kinds_v : Nat → Int32) (m_wind_v : Nat → Int32) (t_looks_v : Nat → Int32) (t_repeats_v : Nat → Int32) (t_winds_v : Nat → Int32) (t_prices_v : Nat → Int32) (u : Int32 × Int32 × Int32 × Int32 × Int32 × Int32 × (Nat → Int32)) (hu : u = f_X2_doByChance x1 m_playing m_paid m_next m_taken m_hat m_time t_players t_bars t_noises_v t_kinds_v m_wind_v t_looks_v t_repeats_v t_winds_v t_prices_v) : Met l yX2_doByChance wsX2_doByChance { frames := 4, cells := 0, slots := 0, locals := 88 } (hgPc [.ref m_h, .ref t_h, .int x1] (dC, dI) cI cZ cM [(m_h, .inr (2, [.int m_playing, .int m_paid, .int m_next, .int m_taken, .int m_hat, .int m_time, .ref m_wind])), (t_h, .inr (3, [.int t_players, .int t_bars, .ref t_prices, .ref t_winds, .ref t_kinds, .ref t_looks, .ref t_noises, .ref t_repeats])), (t_noises, .inl (cI, 8, .inl t_noises_v)), (t_kinds, .inl (cI, 6, .inl t_kinds_v)), (m_wind, .inl (cI, 6, .inl m_wind_v)), (t_looks, .inl (cI, 6, .inl t_looks_v)), (t_repeats, .inl (cI, 8, .inl t_repeats_v)), (t_winds, .inl (cI, 6, .inl t_winds_v)), (t_prices, .inl (cI, 6, .inl t_prices_v))] sz) (hgQv (dC, dI) [(m_h, .inr (2, [.int u.1, .int u.2.1, .int u.2.2.1, .int u.2.2.2.1, .int u.2.2.2.2.1, .int u.2.2.2.2.2.1, .ref m_wind])), (t_h, .inr (3, [.int t_players, .int t_bars, .ref t_prices, .ref t_winds, .ref t_kinds, .ref t_looks, .ref t_noises, .ref t_repeats])), (t_noises, .inl (cI, 8, .inl t_noises_v)), (t_kinds, .inl (cI, 6, .inl t_kinds_v)), (m_wind, .inl (cI, 6, .inl u.2.2.2.2.2.2)), (t_looks, .inl (cI, 6, .inl t_looks_v)), (t_repeats, .inl (cI, 8, .inl t_repeats_v)), (t_winds, .inl (cI, 6, .inl t_winds_v)), (t_prices, .inl (cI, 6, .inl t_prices_v))] (va_A [(m_h, .inr (2, [.int m_playing, .int m_paid, .int m_next, .int m_taken, .int m_hat, .int m_time, .ref m_wind])), (t_h, .inr (3, [.int t_players, .int t_bars, .ref t_prices, .ref t_winds, .ref t_kinds, .ref t_looks, .ref t_noises, .ref t_repeats])), (t_noises, .inl (cI, 8, .inl t_noises_v)), (t_kinds, .inl (cI, 6, .inl t_kinds_v)), (m_wind, .inl (cI, 6, .inl m_wind_v)), (t_looks, .inl (cI, 6, .inl t_looks_v)), (t_repeats, .inl (cI, 8, .inl t_repeats_v)), (t_winds, .inl (cI, 6, .inl t_winds_v)), (t_prices, .inl (cI, 6, .inl t_prices_v))] sz)) 0 0 (va_A [(m_h, .inr (2, [.int m_playing, .int m_paid, .int m_next, .int m_taken, .int m_hat, .int m_time, .ref m_wind])), (t_h, .inr (3, [.int t_players, .int t_bars, .ref t_prices, .ref t_winds, .ref t_kinds, .ref t_looks, .ref t_noises, .ref t_repeats])), (t_noises, .inl (cI, 8, .inl t_noises_v)), (t_kinds, .inl (cI, 6, .inl t_kinds_v)), (m_wind, .inl (cI, 6, .inl m_wind_v)), (t_looks, .inl (cI, 6, .inl t_looks_v)), (t_repeats, .inl (cI, 8, .inl t_repeats_v)), (t_winds, .inl (cI, 6, .inl t_winds_v)), (t_prices, .inl (cI, 6, .inl t_prices_v))] sz) := by
  refine hg_ofW (cc := cX2_doByChance) (maxL := 3) (ret := none) (own := RX2) (fun A => hgQv (dC, dI) [(m_h, .inr (2, [.int u.1, .int u.2.1, .int u.2.2.1, .int u.2.2.2.1, .int u.2.2.2.2.1, .int u.2.2.2.2.2.1, .ref m_wind])), (t_h, .inr (3, [.int t_players, .int t_bars, .ref t_prices, .ref t_winds, .ref t_kinds, .ref t_looks, .ref t_noises, .ref t_repeats])), (t_noises, .inl (cI, 8, .inl t_noises_v)), (t_kinds, .inl (cI, 6, .inl t_kinds_v)), (m_wind, .inl (cI, 6, .inl u.2.2.2.2.2.2)), (t_looks, .inl (cI, 6, .inl t_looks_v)), (t_repeats, .inl (cI, 8, .inl t_repeats_v)), (t_winds, .inl (cI, 6, .inl t_winds_v)), (t_prices, .inl (cI, 6, .inl t_prices_v))] A) rfl (by decide) rfl (Nat.le_of_ble_eq_true rfl) ?_
  intro p e s m below meth c ls A hsz hx hb hr hml hown hts hlk hnm hK hN hA hP hD hS hl
  subst hsz
  have hl : lv_has ls 3 [(0, .ref m_h), (1, .ref t_h), (2, .int x1)] := hl
  unfold f_X2_doByChance at hu
  refine lv_iload_n hx hb dX2_doByChance_0 rfl (lv_at hl 2 rfl) ?_
  refine lv_bipush (v := 6) hx hb dX2_doByChance_1 (by decide) ?_
  refine lv_icmp_ge (tgt := 16) hx hb dX2_doByChance_3 (by decide) (fun c_3 => ?_) (fun c_3 => ?_)
  · have hu := hu.trans (if_pos c_3)
    refine lv_iload_n hx hb dX2_doByChance_16 rfl (lv_at hl 2 rfl) ?_
    refine lv_bipush (v := 12) hx hb dX2_doByChance_17 (by decide) ?_
    refine lv_icmp_ge (tgt := 35) hx hb dX2_doByChance_19 (by decide) (fun c_19 => ?_) (fun c_19 => ?_)
    · have hu := hu.trans (if_pos c_19)
      refine lv_iload_n hx hb dX2_doByChance_35 rfl (lv_at hl 2 rfl) ?_
      refine lv_bipush (v := 15) hx hb dX2_doByChance_36 (by decide) ?_
      refine lv_icmp_ge (tgt := 53) hx hb dX2_doByChance_38 (by decide) (fun c_38 => ?_) (fun c_38 => ?_)
      · have hu := hu.trans (if_pos c_38)
        refine lv_iload_n hx hb dX2_doByChance_53 rfl (lv_at hl 2 rfl) ?_
        refine lv_bipush (v := 15) hx hb dX2_doByChance_54 (by decide) ?_
        refine lv_icmp_ne (tgt := 68) hx hb dX2_doByChance_56 (by decide) (fun c_56 => ?_) (fun c_56 => ?_)
        · have hu := hu.trans (if_neg c_56)
          refine lv_aload_n hx hb dX2_doByChance_68 rfl (lv_at hl 0 rfl) ?_
          refine lv_aload_n hx hb dX2_doByChance_69 rfl (lv_at hl 1 rfl) ?_
          obtain ⟨r1, er1, hu⟩ := lxb_o hu
          refine hg_ci (va_runV (As := [.ref t_h]) (rest := []) ⟨hx, hb, hml, hown, hts⟩ (c_X2_playBar l dC dI cI cZ cM _ m_h t_h m_playing m_paid m_next m_taken m_hat m_time m_wind t_players t_bars t_prices t_winds t_kinds t_looks t_noises t_repeats t_noises_v t_kinds_v m_wind_v t_looks_v t_repeats_v r1 er1) (cwV 1 hts gX2_doByChance_X2_playBar rfl rfl rfl (by decide +kernel) ⟨Nat.le_of_ble_eq_true rfl, Nat.le_of_ble_eq_true rfl⟩) (hgPreV (C := RX2) (T := TX2) (N := 7) (ci := 2) (q0 := 0) hP hD hK hN [0, 1, 2, 3, 4, 5, 6] rfl rfl rfl rfl) rfl rfl hl.1 rfl (lv_room (Nat.le_of_ble_eq_true rfl)) dX2_doByChance_70 ⟨Nat.zero_le _, Nat.zero_le _⟩) hP hD hS hA (wr := [(t_winds, .inl (cI, 6, .inl t_winds_v)), (t_prices, .inl (cI, 6, .inl t_prices_v))]) (wf := [(m_h, .inr (2, [.int r1.2.1, .int m_paid, .int r1.2.2.1, .int r1.2.2.2.1, .int m_hat, .int r1.2.2.2.2.1, .ref m_wind])), (t_h, .inr (3, [.int t_players, .int t_bars, .ref t_prices, .ref t_winds, .ref t_kinds, .ref t_looks, .ref t_noises, .ref t_repeats])), (t_noises, .inl (cI, 8, .inl t_noises_v)), (t_kinds, .inl (cI, 6, .inl t_kinds_v)), (m_wind, .inl (cI, 6, .inl r1.2.2.2.2.2)), (t_looks, .inl (cI, 6, .inl t_looks_v)), (t_repeats, .inl (cI, 8, .inl t_repeats_v)), (t_winds, .inl (cI, 6, .inl t_winds_v)), (t_prices, .inl (cI, 6, .inl t_prices_v))]) [0, 1, 2, 3, 4, 5, 6] [7, 8] [2, 3, 4, 5, 6, 7, 8, 0, 1] rfl rfl rfl (by decide) rfl rfl (fun H locs hP hD hS => ?_)
          refine lv_pop hx hb dX2_doByChance_73 rfl ?_
          subst hu
          exact hg_rv hx hb hr hlk hP hD hS dX2_doByChance_74
        · have hu := hu.trans (if_pos c_56)
          refine lv_aload_n hx hb dX2_doByChance_59 rfl (lv_at hl 0 rfl) ?_
          refine lv_aload_n hx hb dX2_doByChance_60 rfl (lv_at hl 1 rfl) ?_
          obtain ⟨r2, er2, hu⟩ := lxb_o hu
          refine hg_ci (va_runV (As := [.ref t_h]) (rest := []) ⟨hx, hb, hml, hown, hts⟩ (c_X2_beginAgain l dC dI cI cZ cM _ m_h t_h m_playing m_paid m_next m_taken m_hat m_time m_wind t_players t_bars t_prices t_winds t_kinds t_looks t_noises t_repeats r2 er2) (cwV 1 hts gX2_doByChance_X2_beginAgain rfl rfl rfl (by decide +kernel) ⟨Nat.le_of_ble_eq_true rfl, Nat.le_of_ble_eq_true rfl⟩) (hgPreV (C := RX2) (T := TX2) (N := 7) (ci := 2) (q0 := 0) hP hD hK hN [0, 1] rfl rfl rfl rfl) rfl rfl hl.1 rfl (lv_room (Nat.le_of_ble_eq_true rfl)) dX2_doByChance_61 ⟨Nat.zero_le _, Nat.zero_le _⟩) hP hD hS hA (wr := [(t_noises, .inl (cI, 8, .inl t_noises_v)), (t_kinds, .inl (cI, 6, .inl t_kinds_v)), (m_wind, .inl (cI, 6, .inl m_wind_v)), (t_looks, .inl (cI, 6, .inl t_looks_v)), (t_repeats, .inl (cI, 8, .inl t_repeats_v)), (t_winds, .inl (cI, 6, .inl t_winds_v)), (t_prices, .inl (cI, 6, .inl t_prices_v))]) (wf := [(m_h, .inr (2, [.int m_playing, .int m_paid, .int r2.2.1, .int r2.2.2, .int m_hat, .int m_time, .ref m_wind])), (t_h, .inr (3, [.int t_players, .int t_bars, .ref t_prices, .ref t_winds, .ref t_kinds, .ref t_looks, .ref t_noises, .ref t_repeats])), (t_noises, .inl (cI, 8, .inl t_noises_v)), (t_kinds, .inl (cI, 6, .inl t_kinds_v)), (m_wind, .inl (cI, 6, .inl m_wind_v)), (t_looks, .inl (cI, 6, .inl t_looks_v)), (t_repeats, .inl (cI, 8, .inl t_repeats_v)), (t_winds, .inl (cI, 6, .inl t_winds_v)), (t_prices, .inl (cI, 6, .inl t_prices_v))]) [0, 1] [2, 3, 4, 5, 6, 7, 8] [7, 8, 0, 1, 2, 3, 4, 5, 6] rfl rfl rfl (by decide) rfl rfl (fun H locs hP hD hS => ?_)
          refine lv_pop hx hb dX2_doByChance_64 rfl ?_
          refine lv_goto (tgt := 74) hx hb dX2_doByChance_65 (by decide) ?_
          subst hu
          exact hg_rv hx hb hr hlk hP hD hS dX2_doByChance_74
      · have hu := hu.trans (if_neg c_38)
        refine lv_aload_n hx hb dX2_doByChance_41 rfl (lv_at hl 0 rfl) ?_
        refine lv_iload_n hx hb dX2_doByChance_42 rfl (lv_at hl 2 rfl) ?_
        refine lv_bipush (v := 11) hx hb dX2_doByChance_43 (by decide) ?_
        refine lv_isub hx hb dX2_doByChance_45 ?_
        obtain ⟨r3, er3, hu⟩ := lxb_o hu
        refine hg_ci (va_runV (As := [.int (x1 - 11)]) (rest := []) ⟨hx, hb, hml, hown, hts⟩ (c_X2_takeGift l dC dI cI cZ cM _ m_h (x1 - 11) m_playing m_paid m_next m_taken m_hat m_time m_wind r3 er3) (cwV 1 hts gX2_doByChance_X2_takeGift rfl rfl rfl (by decide +kernel) ⟨Nat.le_of_ble_eq_true rfl, Nat.le_of_ble_eq_true rfl⟩) (hgPreV (C := RX2) (T := TX2) (N := 7) (ci := 2) (q0 := 0) hP hD hK hN [0] rfl rfl rfl rfl) rfl rfl hl.1 rfl (lv_room (Nat.le_of_ble_eq_true rfl)) dX2_doByChance_46 ⟨Nat.zero_le _, Nat.zero_le _⟩) hP hD hS hA (wr := [(t_h, .inr (3, [.int t_players, .int t_bars, .ref t_prices, .ref t_winds, .ref t_kinds, .ref t_looks, .ref t_noises, .ref t_repeats])), (t_noises, .inl (cI, 8, .inl t_noises_v)), (t_kinds, .inl (cI, 6, .inl t_kinds_v)), (m_wind, .inl (cI, 6, .inl m_wind_v)), (t_looks, .inl (cI, 6, .inl t_looks_v)), (t_repeats, .inl (cI, 8, .inl t_repeats_v)), (t_winds, .inl (cI, 6, .inl t_winds_v)), (t_prices, .inl (cI, 6, .inl t_prices_v))]) (wf := [(m_h, .inr (2, [.int m_playing, .int m_paid, .int m_next, .int m_taken, .int r3.2, .int m_time, .ref m_wind])), (t_h, .inr (3, [.int t_players, .int t_bars, .ref t_prices, .ref t_winds, .ref t_kinds, .ref t_looks, .ref t_noises, .ref t_repeats])), (t_noises, .inl (cI, 8, .inl t_noises_v)), (t_kinds, .inl (cI, 6, .inl t_kinds_v)), (m_wind, .inl (cI, 6, .inl m_wind_v)), (t_looks, .inl (cI, 6, .inl t_looks_v)), (t_repeats, .inl (cI, 8, .inl t_repeats_v)), (t_winds, .inl (cI, 6, .inl t_winds_v)), (t_prices, .inl (cI, 6, .inl t_prices_v))]) [0] [1, 2, 3, 4, 5, 6, 7, 8] [8, 0, 1, 2, 3, 4, 5, 6, 7] rfl rfl rfl (by decide) rfl rfl (fun H locs hP hD hS => ?_)
        refine lv_pop hx hb dX2_doByChance_49 rfl ?_
        refine lv_goto (tgt := 74) hx hb dX2_doByChance_50 (by decide) ?_
        subst hu
        exact hg_rv hx hb hr hlk hP hD hS dX2_doByChance_74
    · have hu := hu.trans (if_neg c_19)
      refine lv_aload_n hx hb dX2_doByChance_22 rfl (lv_at hl 0 rfl) ?_
      refine lv_aload_n hx hb dX2_doByChance_23 rfl (lv_at hl 1 rfl) ?_
      refine lv_iload_n hx hb dX2_doByChance_24 rfl (lv_at hl 2 rfl) ?_
      refine lv_bipush (v := 6) hx hb dX2_doByChance_25 (by decide) ?_
      refine lv_isub hx hb dX2_doByChance_27 ?_
      obtain ⟨r4, er4, hu⟩ := lxb_o hu
      refine hg_ci (va_runV (As := [.ref t_h, .int (x1 - 6)]) (rest := []) ⟨hx, hb, hml, hown, hts⟩ (c_X2_restPlayer l dC dI cI cZ cM _ m_h t_h (x1 - 6) m_playing m_paid m_next m_taken m_hat m_time m_wind t_players t_bars t_prices t_winds t_kinds t_looks t_noises t_repeats t_winds_v m_wind_v r4 er4) (cwV 2 hts gX2_doByChance_X2_restPlayer rfl rfl rfl (by decide +kernel) ⟨Nat.le_of_ble_eq_true rfl, Nat.le_of_ble_eq_true rfl⟩) (hgPreV (C := RX2) (T := TX2) (N := 7) (ci := 2) (q0 := 0) hP hD hK hN [0, 1, 7, 4] rfl rfl rfl rfl) rfl rfl hl.1 rfl (lv_room (Nat.le_of_ble_eq_true rfl)) dX2_doByChance_28 ⟨Nat.zero_le _, Nat.zero_le _⟩) hP hD hS hA (wr := [(t_noises, .inl (cI, 8, .inl t_noises_v)), (t_kinds, .inl (cI, 6, .inl t_kinds_v)), (t_looks, .inl (cI, 6, .inl t_looks_v)), (t_repeats, .inl (cI, 8, .inl t_repeats_v)), (t_prices, .inl (cI, 6, .inl t_prices_v))]) (wf := [(m_h, .inr (2, [.int r4.2.1, .int m_paid, .int m_next, .int m_taken, .int m_hat, .int m_time, .ref m_wind])), (t_h, .inr (3, [.int t_players, .int t_bars, .ref t_prices, .ref t_winds, .ref t_kinds, .ref t_looks, .ref t_noises, .ref t_repeats])), (t_noises, .inl (cI, 8, .inl t_noises_v)), (t_kinds, .inl (cI, 6, .inl t_kinds_v)), (m_wind, .inl (cI, 6, .inl r4.2.2)), (t_looks, .inl (cI, 6, .inl t_looks_v)), (t_repeats, .inl (cI, 8, .inl t_repeats_v)), (t_winds, .inl (cI, 6, .inl t_winds_v)), (t_prices, .inl (cI, 6, .inl t_prices_v))]) [0, 1, 7, 4] [2, 3, 5, 6, 8] [5, 6, 0, 1, 8, 2, 3, 7, 4] rfl rfl rfl (by decide) rfl rfl (fun H locs hP hD hS => ?_)
      refine lv_pop hx hb dX2_doByChance_31 rfl ?_
      refine lv_goto (tgt := 74) hx hb dX2_doByChance_32 (by decide) ?_
      subst hu
      exact hg_rv hx hb hr hlk hP hD hS dX2_doByChance_74
  · have hu := hu.trans (if_neg c_3)
    refine lv_aload_n hx hb dX2_doByChance_6 rfl (lv_at hl 0 rfl) ?_
    refine lv_aload_n hx hb dX2_doByChance_7 rfl (lv_at hl 1 rfl) ?_
    refine lv_iload_n hx hb dX2_doByChance_8 rfl (lv_at hl 2 rfl) ?_
    obtain ⟨r5, er5, hu⟩ := lxb_o hu
    refine hg_ci (va_runV (As := [.ref t_h, .int x1]) (rest := []) ⟨hx, hb, hml, hown, hts⟩ (c_X2_payFromHat l dC dI cI cZ cM _ m_h t_h x1 m_playing m_paid m_next m_taken m_hat m_time m_wind t_players t_bars t_prices t_winds t_kinds t_looks t_noises t_repeats t_prices_v r5 er5) (cwV 2 hts gX2_doByChance_X2_payFromHat rfl rfl rfl (by decide +kernel) ⟨Nat.le_of_ble_eq_true rfl, Nat.le_of_ble_eq_true rfl⟩) (hgPreV (C := RX2) (T := TX2) (N := 7) (ci := 2) (q0 := 0) hP hD hK hN [0, 1, 8] rfl rfl rfl rfl) rfl rfl hl.1 rfl (lv_room (Nat.le_of_ble_eq_true rfl)) dX2_doByChance_9 ⟨Nat.zero_le _, Nat.zero_le _⟩) hP hD hS hA (wr := [(t_noises, .inl (cI, 8, .inl t_noises_v)), (t_kinds, .inl (cI, 6, .inl t_kinds_v)), (m_wind, .inl (cI, 6, .inl m_wind_v)), (t_looks, .inl (cI, 6, .inl t_looks_v)), (t_repeats, .inl (cI, 8, .inl t_repeats_v)), (t_winds, .inl (cI, 6, .inl t_winds_v))]) (wf := [(m_h, .inr (2, [.int r5.2.1, .int r5.2.2.1, .int m_next, .int m_taken, .int r5.2.2.2, .int m_time, .ref m_wind])), (t_h, .inr (3, [.int t_players, .int t_bars, .ref t_prices, .ref t_winds, .ref t_kinds, .ref t_looks, .ref t_noises, .ref t_repeats])), (t_noises, .inl (cI, 8, .inl t_noises_v)), (t_kinds, .inl (cI, 6, .inl t_kinds_v)), (m_wind, .inl (cI, 6, .inl m_wind_v)), (t_looks, .inl (cI, 6, .inl t_looks_v)), (t_repeats, .inl (cI, 8, .inl t_repeats_v)), (t_winds, .inl (cI, 6, .inl t_winds_v)), (t_prices, .inl (cI, 6, .inl t_prices_v))]) [0, 1, 8] [2, 3, 4, 5, 6, 7] [6, 7, 0, 1, 2, 3, 4, 5, 8] rfl rfl rfl (by decide) rfl rfl (fun H locs hP hD hS => ?_)
    refine lv_pop hx hb dX2_doByChance_12 rfl ?_
    refine lv_goto (tgt := 74) hx hb dX2_doByChance_13 (by decide) ?_
    subst hu
    exact hg_rv hx hb hr hlk hP hD hS dX2_doByChance_74
