def f_X5_player (x0 : Int32) (x1 : Int32) (o_players : Int32) (o_price_v : Nat → Int32) (o_now_v : Nat → Int32) (o_kind_v : Nat → Int32) (o_looks_v : Nat → Int32) : Int32 :=
  lxb (f_X5_isPlayer x0 o_players) (fun r1 =>
  if r1 = 0 then (-1)
   else if x1 = 0 then (o_price_v (Int32.toNatClampNeg x0))
    else if x1 = 1 then (o_now_v (Int32.toNatClampNeg (6 + x0)))
     else if x1 = 2 then (o_kind_v (Int32.toNatClampNeg x0))
      else if x1 = 3 then (o_looks_v (Int32.toNatClampNeg x0))
       else if x1 = 4 then (o_now_v (Int32.toNatClampNeg x0))
        else (-2))

def f_X5_score (x0 : Int32) (x1 : Int32) (o_bars : Int32) (o_now_v : Nat → Int32) (o_repeat_v : Nat → Int32) (o_noise_v : Nat → Int32) : Int32 :=
  lxb (f_X5_in (Int32.toInt64 x0) 0 (Int32.toInt64 (o_bars - 1))) (fun r1 =>
  if r1 = 0 then (-1)
   else if x1 = 0 then (o_noise_v (Int32.toNatClampNeg x0))
    else if x1 = 1 then (o_repeat_v (Int32.toNatClampNeg x0))
     else if x1 = 2 then (((o_now_v (Int32.toNatClampNeg 13)) >>> (x0 &&& 31)) &&& 1)
      else (-2))

def b_X5_keepAct_2 (o_next : Int32) (o_now_v : Nat → Int32) (k2 : Nat) (v2 : (Nat → Int32)) : (Nat → Int32) :=
  lxb ((o_now_v (Int32.toNatClampNeg (nI k2)))) (fun y1 =>
  (upd v2 (Int32.toNatClampNeg ((16 * o_next) + nI k2)) y1))
def l_X5_keepAct_2 (o_next : Int32) (o_now_v : Nat → Int32) (i0 : (Nat → Int32)) : Nat → (Nat → Int32)
  | 0 => i0
  | k + 1 => b_X5_keepAct_2 o_next o_now_v k (l_X5_keepAct_2 o_next o_now_v i0 k)
def f_X5_keepAct (o_acts : Int32) (o_next : Int32) (o_now_v : Nat → Int32) (o_row_v : Nat → Int32) : Int32 × Int32 × (Nat → Int32) :=
  lxb (l_X5_keepAct_2 o_next o_now_v o_row_v (itn 0 16)) (fun r2 =>
  lxb (((o_next + 1) - (o_next + 1) / 14 * 14)) (fun y3 =>
   lxb (α := Int32) (if 14 ≤ o_acts then 14
     else (o_acts + 1)) (fun z4 =>
    (z4, y3, r2))))

def f_X5_bar (o_players : Int32) (o_bars : Int32) (o_acts : Int32) (o_next : Int32) (o_now_v : Nat → Int32) (o_row_v : Nat → Int32) (o_noise_v : Nat → Int32) (o_kind_v : Nat → Int32) (o_looks_v : Nat → Int32) (o_repeat_v : Nat → Int32) : Int32 × Int32 × Int32 × (Nat → Int32) × (Nat → Int32) :=
  lxb (f_X5_isSilent 0 o_players o_bars o_now_v) (fun r1 =>
  if r1 = 0 then (lxb (f_X5_keepAct o_acts o_next o_now_v o_row_v) (fun r2 =>
    lxb (f_X5_passOn 0 o_players o_bars o_now_v o_noise_v o_kind_v o_looks_v o_repeat_v) (fun r3 =>
     lxb (f_X5_howMany 0 o_players r3.2) (fun r5 =>
      (r5, r2.1, r2.2.1, r3.2, r2.2.2)))))
   else ((-3), o_acts, o_next, o_now_v, o_row_v))

def f_X5_giveOn (x0 : Int32) (x1 : Int32) (o_now_v : Nat → Int32) : (Nat → Int32) :=
  lxb (α := Int32) (if ((o_now_v (Int32.toNatClampNeg ((16 * x0) + 14))) + x1) ≤ 99 then ((o_now_v (Int32.toNatClampNeg ((16 * x0) + 14))) + x1)
   else 99) (fun z1 =>
  (upd o_now_v (Int32.toNatClampNeg ((16 * x0) + 14)) z1))

def f_X5_give (x0 : Int32) (o_acts : Int32) (o_next : Int32) (o_now_v : Nat → Int32) (o_row_v : Nat → Int32) : Int32 × Int32 × Int32 × (Nat → Int32) × (Nat → Int32) :=
  lxb (f_X5_in (Int32.toInt64 x0) 1 9) (fun r1 =>
  if r1 = 0 then ((-2), o_acts, o_next, o_now_v, o_row_v)
   else lxb (f_X5_keepAct o_acts o_next o_now_v o_row_v) (fun r2 =>
    lxb (f_X5_giveOn 0 x0 o_now_v) (fun r3 =>
     ((r3 (Int32.toNatClampNeg 14)), r2.1, r2.2.1, r3, r2.2.2))))

def f_X5_canPay (x0 : Int32) (x1 : Int32) (o_players : Int32) (o_now_v : Nat → Int32) (o_price_v : Nat → Int32) : Int32 :=
  lxb (f_X5_plays x0 x1 o_players o_now_v) (fun r1 =>
  if r1 = 0 then 0
   else if (o_now_v (Int32.toNatClampNeg ((16 * x0) + 14))) < (o_price_v (Int32.toNatClampNeg x1)) then 0
    else 1)
theorem mCanPay {x0 x1 y r : Int32} {now pr : Nat → Int32} {n : Nat} (e : y = nI n) (hn : n ≤ 6) (er : r = f_X5_canPay x0 x1 y now pr) (h : ¬ r = 0) : ∃ j, j < n ∧ x1 = nI j := by
  subst er
  dsimp only [f_X5_canPay, lxb] at h
  by_cases c : f_X5_plays x0 x1 y now = 0
  · rw [if_pos c] at h; exact absurd rfl h
  · exact mPlays e hn rfl c

def f_X5_payOn (x0 : Int32) (x1 : Int32) (o_now_v : Nat → Int32) (o_price_v : Nat → Int32) : (Nat → Int32) :=
  lxb (((o_now_v (Int32.toNatClampNeg ((16 * x0) + 14))) - (o_price_v (Int32.toNatClampNeg x1)))) (fun y1 =>
  (upd (upd o_now_v (Int32.toNatClampNeg ((16 * x0) + 14)) y1) (Int32.toNatClampNeg ((16 * x0) + x1)) 1))

def f_X5_pay (x0 : Int32) (o_players : Int32) (o_acts : Int32) (o_next : Int32) (o_now_v : Nat → Int32) (o_price_v : Nat → Int32) (o_row_v : Nat → Int32) : Int32 × Int32 × Int32 × (Nat → Int32) × (Nat → Int32) :=
  lxb (f_X5_isPlayer x0 o_players) (fun r1 =>
  if r1 = 0 then ((-1), o_acts, o_next, o_now_v, o_row_v)
   else lxb (f_X5_canPay 0 x0 o_players o_now_v o_price_v) (fun r2 =>
    if r2 = 0 then ((-3), o_acts, o_next, o_now_v, o_row_v)
     else lxb (f_X5_keepAct o_acts o_next o_now_v o_row_v) (fun r3 =>
      lxb (f_X5_payOn 0 x0 o_now_v o_price_v) (fun r4 =>
       ((r4 (Int32.toNatClampNeg 14)), r3.1, r3.2.1, r4, r3.2.2)))))

def f_X5_canRest (x0 : Int32) (x1 : Int32) (o_players : Int32) (o_now_v : Nat → Int32) (o_breath_v : Nat → Int32) : Int32 :=
  lxb (f_X5_isPlayer x1 o_players) (fun r1 =>
  if r1 = 0 then 0
   else if (o_now_v (Int32.toNatClampNeg ((16 * x0) + x1))) = 2 then (if (o_breath_v (Int32.toNatClampNeg x1)) ≤ 0 then 0
     else 1)
    else 0)
theorem mCanRest {x0 x1 y r : Int32} {now br : Nat → Int32} {n : Nat} (e : y = nI n) (hn : n ≤ 6) (er : r = f_X5_canRest x0 x1 y now br) (h : ¬ r = 0) : ∃ j, j < n ∧ x1 = nI j := by
  subst er
  dsimp only [f_X5_canRest, lxb] at h
  by_cases c : f_X5_isPlayer x1 y = 0
  · rw [if_pos c] at h; exact absurd rfl h
  · exact mP e hn rfl c
theorem mCanRestK {x0 y r : Int32} {now br : Nat → Int32} {n k : Nat} (e : y = nI n) (hn : n ≤ 6) (hk : k < 2 ^ 31) (er : r = f_X5_canRest x0 (nI k) y now br) (h : ¬ r = 0) : k < n := by
  obtain ⟨j, hj, ej⟩ := mCanRest e hn er h
  have := (nI_eq hk (show j < 2 ^ 31 by omega)).mp ej
  omega

def f_X5_restOn (x0 : Int32) (x1 : Int32) (o_now_v : Nat → Int32) (o_breath_v : Nat → Int32) : (Nat → Int32) :=
  lxb ((o_breath_v (Int32.toNatClampNeg x1))) (fun y2 =>
  (upd (upd o_now_v (Int32.toNatClampNeg ((16 * x0) + x1)) 0) (Int32.toNatClampNeg (((16 * x0) + 6) + x1)) y2))

def f_X5_rest (x0 : Int32) (o_players : Int32) (o_acts : Int32) (o_next : Int32) (o_now_v : Nat → Int32) (o_breath_v : Nat → Int32) (o_row_v : Nat → Int32) : Int32 × Int32 × Int32 × (Nat → Int32) × (Nat → Int32) :=
  lxb (f_X5_isPlayer x0 o_players) (fun r1 =>
  if r1 = 0 then ((-1), o_acts, o_next, o_now_v, o_row_v)
   else lxb (f_X5_canRest 0 x0 o_players o_now_v o_breath_v) (fun r2 =>
    if r2 = 0 then ((-3), o_acts, o_next, o_now_v, o_row_v)
     else lxb (f_X5_keepAct o_acts o_next o_now_v o_row_v) (fun r3 =>
      lxb (f_X5_restOn 0 x0 o_now_v o_breath_v) (fun r4 =>
       ((r4 (Int32.toNatClampNeg (6 + x0))), r3.1, r3.2.1, r4, r3.2.2)))))

def f_X5_beginOn (x0 : Int32) (o_now_v : Nat → Int32) : (Nat → Int32) :=
  (upd (upd o_now_v (Int32.toNatClampNeg ((16 * x0) + 12)) 0) (Int32.toNatClampNeg ((16 * x0) + 13)) 0)

def f_X5_encore (o_players : Int32) (o_bars : Int32) (o_acts : Int32) (o_next : Int32) (o_now_v : Nat → Int32) (o_row_v : Nat → Int32) : Int32 × Int32 × Int32 × (Nat → Int32) × (Nat → Int32) :=
  if o_bars = 0 then ((-3), o_acts, o_next, o_now_v, o_row_v)
  else lxb (f_X5_keepAct o_acts o_next o_now_v o_row_v) (fun r1 =>
   lxb (f_X5_beginOn 0 o_now_v) (fun r2 =>
    lxb (f_X5_howMany 0 o_players r2) (fun r4 =>
     (r4, r1.1, r1.2.1, r2, r1.2.2))))

def b_X5_undo_36 (o_row_v : Nat → Int32) (y1 : Int32) (k36 : Nat) (v36 : (Nat → Int32)) : (Nat → Int32) :=
  lxb ((o_row_v (Int32.toNatClampNeg ((16 * y1) + nI k36)))) (fun y2 =>
  (upd v36 (Int32.toNatClampNeg (nI k36)) y2))
def l_X5_undo_36 (o_row_v : Nat → Int32) (y1 : Int32) (i0 : (Nat → Int32)) : Nat → (Nat → Int32)
  | 0 => i0
  | k + 1 => b_X5_undo_36 o_row_v y1 k (l_X5_undo_36 o_row_v y1 i0 k)
def f_X5_undo (o_acts : Int32) (o_next : Int32) (o_row_v : Nat → Int32) (o_now_v : Nat → Int32) : Int32 × Int32 × Int32 × (Nat → Int32) :=
  if o_acts = 0 then ((-3), o_acts, o_next, o_now_v)
  else lxb (((o_next + 13) - (o_next + 13) / 14 * 14)) (fun y1 =>
   lxb (l_X5_undo_36 o_row_v y1 o_now_v (itn 0 16)) (fun r3 =>
    ((o_acts - 1), (o_acts - 1), y1, r3)))

def b_X5_layTrial_2 (k2 : Nat) (v2 : (Nat → Int32)) : (Nat → Int32) :=
  lxb ((v2 (Int32.toNatClampNeg (nI k2)))) (fun y1 =>
  (upd v2 (Int32.toNatClampNeg (16 + nI k2)) y1))
def l_X5_layTrial_2 (i0 : (Nat → Int32)) : Nat → (Nat → Int32)
  | 0 => i0
  | k + 1 => b_X5_layTrial_2 k (l_X5_layTrial_2 i0 k)
def f_X5_layTrial (o_now_v : Nat → Int32) : (Nat → Int32) :=
  lxb (l_X5_layTrial_2 o_now_v (itn 0 16)) (fun r3 =>
  r3)
theorem mLay {f : Nat → Int32} {y : Int32} {k : Nat} (ey : y = f (Int32.toNatClampNeg (nI k))) (hB : mB f) (q : 16 + k = 12 ∨ 16 + k = 28) : 0 ≤ y := by
  obtain rfl : k = 12 := by omega
  rw [ey, nI_clamp (by decide)]
  exact hB.1

def b_X5_goOn_4 (o_players : Int32) (o_bars : Int32) (o_noise_v : Nat → Int32) (o_kind_v : Nat → Int32) (o_looks_v : Nat → Int32) (o_repeat_v : Nat → Int32) (k4 : Nat) (v4 : Int32 × (Nat → Int32)) : Int32 × (Nat → Int32) :=
  lxb (f_X5_passOn 1 o_players o_bars v4.2 o_noise_v o_kind_v o_looks_v o_repeat_v) (fun r1 =>
  ((v4.1 + r1.1), r1.2))
def l_X5_goOn_4 (o_players : Int32) (o_bars : Int32) (o_noise_v : Nat → Int32) (o_kind_v : Nat → Int32) (o_looks_v : Nat → Int32) (o_repeat_v : Nat → Int32) (i0 : Int32 × (Nat → Int32)) : Nat → Int32 × (Nat → Int32)
  | 0 => i0
  | k + 1 => b_X5_goOn_4 o_players o_bars o_noise_v o_kind_v o_looks_v o_repeat_v k (l_X5_goOn_4 o_players o_bars o_noise_v o_kind_v o_looks_v o_repeat_v i0 k)
def f_X5_goOn (x0 : Int32) (o_players : Int32) (o_bars : Int32) (o_now_v : Nat → Int32) (o_noise_v : Nat → Int32) (o_kind_v : Nat → Int32) (o_looks_v : Nat → Int32) (o_repeat_v : Nat → Int32) : Int32 × (Nat → Int32) :=
  lxb (l_X5_goOn_4 o_players o_bars o_noise_v o_kind_v o_looks_v o_repeat_v (0, o_now_v) (itn 0 x0)) (fun r3 =>
  (r3.1, r3.2))

def f_X5_later (x0 : Int32) (x1 : Int32) (o_players : Int32) (o_bars : Int32) (o_now_v : Nat → Int32) (o_noise_v : Nat → Int32) (o_kind_v : Nat → Int32) (o_looks_v : Nat → Int32) (o_repeat_v : Nat → Int32) : Int32 × (Nat → Int32) :=
  lxb (f_X5_in (Int32.toInt64 x0) 0 30) (fun r1 =>
  if r1 = 0 then ((-2), o_now_v)
   else lxb (f_X5_in (Int32.toInt64 x1) 0 1) (fun r2 =>
    if r2 = 0 then ((-2), o_now_v)
     else lxb (f_X5_layTrial o_now_v) (fun r3 =>
      lxb (f_X5_goOn x0 o_players o_bars r3 o_noise_v o_kind_v o_looks_v o_repeat_v) (fun r5 =>
       if x1 = 0 then (lxb (f_X5_whoIs 1 0 o_players r5.2) (fun r8 =>
         (r8, r5.2)))
        else lxb (f_X5_nextBar 1 o_players o_bars r5.2) (fun r7 =>
         (r7, r5.2))))))

def l_X5_stops_6 (o_players : Int32) (o_bars : Int32) (o_noise_v : Nat → Int32) (o_kind_v : Nat → Int32) (o_looks_v : Nat → Int32) (o_repeat_v : Nat → Int32) : Nat → Nat → (Nat → Int32) → Int32 × (Nat → Int32)
  | 0, _, v6 =>
    ((-9), v6)
  | n6 + 1, k6, v6 =>
    lxb (f_X5_isSilent 1 o_players o_bars v6) (fun r3 =>
    if r3 = 0 then (lxb (f_X5_passOn 1 o_players o_bars v6 o_noise_v o_kind_v o_looks_v o_repeat_v) (fun r4 =>
      l_X5_stops_6 o_players o_bars o_noise_v o_kind_v o_looks_v o_repeat_v n6 (k6 + 1) r4.2))
     else (nI k6, v6))
def f_X5_stops (o_players : Int32) (o_bars : Int32) (o_now_v : Nat → Int32) (o_noise_v : Nat → Int32) (o_kind_v : Nat → Int32) (o_looks_v : Nat → Int32) (o_repeat_v : Nat → Int32) : Int32 × (Nat → Int32) :=
  lxb (f_X5_layTrial o_now_v) (fun r1 =>
  l_X5_stops_6 o_players o_bars o_noise_v o_kind_v o_looks_v o_repeat_v (itn 0 31) 0 r1)
set_option maxHeartbeats 4000000 in
set_option maxRecDepth 100000 in
theorem c_X5_player (l : Launch) (dC : Nat → ClassId) (dI : Nat → Nat → Nat) (cI cZ cM : ClassId) (sz : Nat) (o_h : Nat) (x0 : Int32) (x1 : Int32) (o_players : Int32) (o_bars : Int32) (o_price : Nat) (o_breath : Nat) (o_kind : Nat) (o_looks : Nat) (o_noise : Nat) (o_repeat : Nat) (o_now : Nat) (o_readPlayer : Nat) (o_readBar : Nat) (o_readPlayers : Int32) (o_readBars : Int32) (o_text : Nat) (o_length : Int32) (o_at : Int32) (o_faultAt : Int32) (o_acts : Int32) (o_next : Int32) (o_row : Nat) (o_heard : Int32) (o_heardOf : Nat) (o_heardBars : Nat) (o_heardPlays : Nat) (o_hushWho : Int32) (o_hushSum : Int32) (o_seed : Int64) (o_isKept : Nat) (o_kept : Nat) (o_price_v : Nat → Int32) (o_now_v : Nat → Int32) (o_kind_v : Nat → Int32) (o_looks_v : Nat → Int32) (np : Nat) (enp : o_players = nI np) (hnp : np ≤ 6) (nb : Nat) (enb : o_bars = nI nb) (hnb : nb ≤ 8) (u : Int32) (hu : u = f_X5_player x0 x1 o_players o_price_v o_now_v o_kind_v o_looks_v) : Met l yX5_player wsX5_player { frames := 2, cells := 0, slots := 0, locals := 46 } (hgPc [.ref o_h, .int x0, .int x1] (dC, dI) cI cZ cM [(o_h, .inr (5, [.int o_players, .int o_bars, .ref o_price, .ref o_breath, .ref o_kind, .ref o_looks, .ref o_noise, .ref o_repeat, .ref o_now, .ref o_readPlayer, .ref o_readBar, .int o_readPlayers, .int o_readBars, .ref o_text, .int o_length, .int o_at, .int o_faultAt, .int o_acts, .int o_next, .ref o_row, .int o_heard, .ref o_heardOf, .ref o_heardBars, .ref o_heardPlays, .int o_hushWho, .int o_hushSum, .long o_seed, .ref o_isKept, .ref o_kept])), (o_price, .inl (cI, 6, .inl o_price_v)), (o_now, .inl (cI, 32, .inl o_now_v)), (o_kind, .inl (cI, 6, .inl o_kind_v)), (o_looks, .inl (cI, 6, .inl o_looks_v))] sz) (hgQi (dC, dI) u [(o_h, .inr (5, [.int o_players, .int o_bars, .ref o_price, .ref o_breath, .ref o_kind, .ref o_looks, .ref o_noise, .ref o_repeat, .ref o_now, .ref o_readPlayer, .ref o_readBar, .int o_readPlayers, .int o_readBars, .ref o_text, .int o_length, .int o_at, .int o_faultAt, .int o_acts, .int o_next, .ref o_row, .int o_heard, .ref o_heardOf, .ref o_heardBars, .ref o_heardPlays, .int o_hushWho, .int o_hushSum, .long o_seed, .ref o_isKept, .ref o_kept])), (o_price, .inl (cI, 6, .inl o_price_v)), (o_now, .inl (cI, 32, .inl o_now_v)), (o_kind, .inl (cI, 6, .inl o_kind_v)), (o_looks, .inl (cI, 6, .inl o_looks_v))] (va_A [(o_h, .inr (5, [.int o_players, .int o_bars, .ref o_price, .ref o_breath, .ref o_kind, .ref o_looks, .ref o_noise, .ref o_repeat, .ref o_now, .ref o_readPlayer, .ref o_readBar, .int o_readPlayers, .int o_readBars, .ref o_text, .int o_length, .int o_at, .int o_faultAt, .int o_acts, .int o_next, .ref o_row, .int o_heard, .ref o_heardOf, .ref o_heardBars, .ref o_heardPlays, .int o_hushWho, .int o_hushSum, .long o_seed, .ref o_isKept, .ref o_kept])), (o_price, .inl (cI, 6, .inl o_price_v)), (o_now, .inl (cI, 32, .inl o_now_v)), (o_kind, .inl (cI, 6, .inl o_kind_v)), (o_looks, .inl (cI, 6, .inl o_looks_v))] sz)) 0 0 (va_A [(o_h, .inr (5, [.int o_players, .int o_bars, .ref o_price, .ref o_breath, .ref o_kind, .ref o_looks, .ref o_noise, .ref o_repeat, .ref o_now, .ref o_readPlayer, .ref o_readBar, .int o_readPlayers, .int o_readBars, .ref o_text, .int o_length, .int o_at, .int o_faultAt, .int o_acts, .int o_next, .ref o_row, .int o_heard, .ref o_heardOf, .ref o_heardBars, .ref o_heardPlays, .int o_hushWho, .int o_hushSum, .long o_seed, .ref o_isKept, .ref o_kept])), (o_price, .inl (cI, 6, .inl o_price_v)), (o_now, .inl (cI, 32, .inl o_now_v)), (o_kind, .inl (cI, 6, .inl o_kind_v)), (o_looks, .inl (cI, 6, .inl o_looks_v))] sz) := by
  refine hg_ofW (cc := cX5_player) (maxL := 3) (ret := (some .int)) (own := RX5) (fun A => hgQi (dC, dI) u [(o_h, .inr (5, [.int o_players, .int o_bars, .ref o_price, .ref o_breath, .ref o_kind, .ref o_looks, .ref o_noise, .ref o_repeat, .ref o_now, .ref o_readPlayer, .ref o_readBar, .int o_readPlayers, .int o_readBars, .ref o_text, .int o_length, .int o_at, .int o_faultAt, .int o_acts, .int o_next, .ref o_row, .int o_heard, .ref o_heardOf, .ref o_heardBars, .ref o_heardPlays, .int o_hushWho, .int o_hushSum, .long o_seed, .ref o_isKept, .ref o_kept])), (o_price, .inl (cI, 6, .inl o_price_v)), (o_now, .inl (cI, 32, .inl o_now_v)), (o_kind, .inl (cI, 6, .inl o_kind_v)), (o_looks, .inl (cI, 6, .inl o_looks_v))] A) rfl (by decide) rfl (Nat.le_of_ble_eq_true rfl) ?_
  intro p e s m below meth c ls A hsz hx hb hr hml hown hts hlk hnm hK hN hA hP hD hS hl
  subst hsz
  have w1 := hts (.fieldLink RX5 7 "HatGoesRoundModel" "price" "[I") (List.mem_of_getElem? (i := 1) rfl)
  have hinX5 : ∀ w ∈ u_ws RX5 TX5 29, w ∈ wsX5_player := fun _ h => List.mem_cons_of_mem _ (List.mem_append_right _ h)
  have w2 := hts (.fieldLink RX5 28 "HatGoesRoundModel" "now" "[I") (List.mem_of_getElem? (i := 2) rfl)
  have w3 := hts (.fieldLink RX5 16 "HatGoesRoundModel" "kind" "[I") (List.mem_of_getElem? (i := 3) rfl)
  have w4 := hts (.fieldLink RX5 19 "HatGoesRoundModel" "looks" "[I") (List.mem_of_getElem? (i := 4) rfl)
  have hl : lv_has ls 3 [(0, .ref o_h), (1, .int x0), (2, .int x1)] := hl
  unfold f_X5_player at hu
  refine lv_aload_n hx hb dX5_player_0 rfl (lv_at hl 0 rfl) ?_
  refine lv_iload_n hx hb dX5_player_1 rfl (lv_at hl 1 rfl) ?_
  obtain ⟨r1, er1, hu⟩ := lxb_o hu
  refine hg_ci (va_runV (As := [.int x0]) (rest := []) ⟨hx, hb, hml, hown, hts⟩ (c_X5_isPlayer l dC dI cI cZ cM _ o_h x0 o_players o_bars o_price o_breath o_kind o_looks o_noise o_repeat o_now o_readPlayer o_readBar o_readPlayers o_readBars o_text o_length o_at o_faultAt o_acts o_next o_row o_heard o_heardOf o_heardBars o_heardPlays o_hushWho o_hushSum o_seed o_isKept o_kept np enp (by omega) nb enb (by omega) r1 er1) (cwV 1 hts gX5_player_X5_isPlayer rfl rfl rfl (by decide +kernel) ⟨Nat.le_of_ble_eq_true rfl, Nat.le_of_ble_eq_true rfl⟩) (hgPreV (C := RX5) (T := TX5) (N := 29) (ci := 5) (q0 := 0) hP hD hK hN [0] rfl rfl rfl rfl) rfl rfl hl.1 rfl (lv_room (Nat.le_of_ble_eq_true rfl)) dX5_player_2 ⟨Nat.zero_le _, Nat.zero_le _⟩) hP hD hS hA (wr := [(o_price, .inl (cI, 6, .inl o_price_v)), (o_now, .inl (cI, 32, .inl o_now_v)), (o_kind, .inl (cI, 6, .inl o_kind_v)), (o_looks, .inl (cI, 6, .inl o_looks_v))]) (wf := [(o_h, .inr (5, [.int o_players, .int o_bars, .ref o_price, .ref o_breath, .ref o_kind, .ref o_looks, .ref o_noise, .ref o_repeat, .ref o_now, .ref o_readPlayer, .ref o_readBar, .int o_readPlayers, .int o_readBars, .ref o_text, .int o_length, .int o_at, .int o_faultAt, .int o_acts, .int o_next, .ref o_row, .int o_heard, .ref o_heardOf, .ref o_heardBars, .ref o_heardPlays, .int o_hushWho, .int o_hushSum, .long o_seed, .ref o_isKept, .ref o_kept])), (o_price, .inl (cI, 6, .inl o_price_v)), (o_now, .inl (cI, 32, .inl o_now_v)), (o_kind, .inl (cI, 6, .inl o_kind_v)), (o_looks, .inl (cI, 6, .inl o_looks_v))]) [0] [1, 2, 3, 4] [4, 0, 1, 2, 3] rfl rfl rfl (by decide) rfl rfl (fun H locs hP hD hS => ?_)
  refine lv_if_ne (tgt := 10) hx hb dX5_player_5 (by decide) (fun c_5 => ?_) (fun c_5 => ?_)
  · have hu := hu.trans (if_neg c_5)
    obtain ⟨jp, hjp, ejp⟩ := mP enp hnp er1 c_5
    refine lv_iload_n hx hb dX5_player_10 rfl (lv_at hl 2 rfl) ?_
    by_cases c_11_0 : x1 = 0
    · have hu := hu.trans (if_pos c_11_0)
      refine lv_tableIn (off := 33) (tgt := 44) hx hb dX5_player_11 (by rw [c_11_0]; decide) (by rw [c_11_0]; decide) (by rw [c_11_0]; rfl) (by decide) ?_
      refine lv_aload_n hx hb dX5_player_44 rfl (lv_at hl 0 rfl) ?_
      refine va_get (D := (dC, dI)) (ci := 5) (v := .ref o_price) (C := RX5) (T := TX5) (N := 29) hx hb hts hinX5 hown hK hP 0 rfl rfl 2 (by decide) w1 (fun _ h9 => h9) rfl dX5_player_45 ?_
      refine lv_iload_n hx hb dX5_player_48 rfl (lv_at hl 1 rfl) ?_
      refine va_iald hx hb hK hP 1 0 rfl rfl (n := 6) (f := o_price_v) (hg_in (n := jp) (N := 6) ejp (by omega) (by decide)) dX5_player_49 ?_
      subst hu
      exact hg_ri hx hb hr hlk rfl hP hD hS dX5_player_50
    · have hu := hu.trans (if_neg c_11_0)
      by_cases c_11_1 : x1 = 1
      · have hu := hu.trans (if_pos c_11_1)
        refine lv_tableIn (off := 40) (tgt := 51) hx hb dX5_player_11 (by rw [c_11_1]; decide) (by rw [c_11_1]; decide) (by rw [c_11_1]; rfl) (by decide) ?_
        refine lv_aload_n hx hb dX5_player_51 rfl (lv_at hl 0 rfl) ?_
        refine va_get (D := (dC, dI)) (ci := 5) (v := .ref o_now) (C := RX5) (T := TX5) (N := 29) hx hb hts hinX5 hown hK hP 0 rfl rfl 8 (by decide) w2 (fun _ h9 => h9) rfl dX5_player_52 ?_
        refine lv_bipush (v := 6) hx hb dX5_player_55 (by decide) ?_
        refine lv_iload_n hx hb dX5_player_57 rfl (lv_at hl 1 rfl) ?_
        refine lv_iadd hx hb dX5_player_58 ?_
        refine va_iald hx hb hK hP 2 0 rfl rfl (n := 32) (f := o_now_v) (hg_in (n := (6 + jp)) (N := 32) (nx_add (show (6 : Int32) = nI 6 from rfl) ejp) (by omega) (by decide)) dX5_player_59 ?_
        subst hu
        exact hg_ri hx hb hr hlk rfl hP hD hS dX5_player_60
      · have hu := hu.trans (if_neg c_11_1)
        by_cases c_11_2 : x1 = 2
        · have hu := hu.trans (if_pos c_11_2)
          refine lv_tableIn (off := 50) (tgt := 61) hx hb dX5_player_11 (by rw [c_11_2]; decide) (by rw [c_11_2]; decide) (by rw [c_11_2]; rfl) (by decide) ?_
          refine lv_aload_n hx hb dX5_player_61 rfl (lv_at hl 0 rfl) ?_
          refine va_get (D := (dC, dI)) (ci := 5) (v := .ref o_kind) (C := RX5) (T := TX5) (N := 29) hx hb hts hinX5 hown hK hP 0 rfl rfl 4 (by decide) w3 (fun _ h9 => h9) rfl dX5_player_62 ?_
          refine lv_iload_n hx hb dX5_player_65 rfl (lv_at hl 1 rfl) ?_
          refine va_iald hx hb hK hP 3 0 rfl rfl (n := 6) (f := o_kind_v) (hg_in (n := jp) (N := 6) ejp (by omega) (by decide)) dX5_player_66 ?_
          subst hu
          exact hg_ri hx hb hr hlk rfl hP hD hS dX5_player_67
        · have hu := hu.trans (if_neg c_11_2)
          by_cases c_11_3 : x1 = 3
          · have hu := hu.trans (if_pos c_11_3)
            refine lv_tableIn (off := 57) (tgt := 68) hx hb dX5_player_11 (by rw [c_11_3]; decide) (by rw [c_11_3]; decide) (by rw [c_11_3]; rfl) (by decide) ?_
            refine lv_aload_n hx hb dX5_player_68 rfl (lv_at hl 0 rfl) ?_
            refine va_get (D := (dC, dI)) (ci := 5) (v := .ref o_looks) (C := RX5) (T := TX5) (N := 29) hx hb hts hinX5 hown hK hP 0 rfl rfl 5 (by decide) w4 (fun _ h9 => h9) rfl dX5_player_69 ?_
            refine lv_iload_n hx hb dX5_player_72 rfl (lv_at hl 1 rfl) ?_
            refine va_iald hx hb hK hP 4 0 rfl rfl (n := 6) (f := o_looks_v) (hg_in (n := jp) (N := 6) ejp (by omega) (by decide)) dX5_player_73 ?_
            subst hu
            exact hg_ri hx hb hr hlk rfl hP hD hS dX5_player_74
          · have hu := hu.trans (if_neg c_11_3)
            by_cases c_11_4 : x1 = 4
            · have hu := hu.trans (if_pos c_11_4)
              refine lv_tableIn (off := 64) (tgt := 75) hx hb dX5_player_11 (by rw [c_11_4]; decide) (by rw [c_11_4]; decide) (by rw [c_11_4]; rfl) (by decide) ?_
              refine lv_aload_n hx hb dX5_player_75 rfl (lv_at hl 0 rfl) ?_
              refine va_get (D := (dC, dI)) (ci := 5) (v := .ref o_now) (C := RX5) (T := TX5) (N := 29) hx hb hts hinX5 hown hK hP 0 rfl rfl 8 (by decide) w2 (fun _ h9 => h9) rfl dX5_player_76 ?_
              refine lv_iload_n hx hb dX5_player_79 rfl (lv_at hl 1 rfl) ?_
              refine va_iald hx hb hK hP 2 0 rfl rfl (n := 32) (f := o_now_v) (hg_in (n := jp) (N := 32) ejp (by omega) (by decide)) dX5_player_80 ?_
              subst hu
              exact hg_ri hx hb hr hlk rfl hP hD hS dX5_player_81
            · have hu := hu.trans (if_neg c_11_4)
              refine lv_tableOut (tgt := 82) hx hb dX5_player_11 (hg_tout (lo := 0) (hi := 4) (fun j h1 h2 e => by rcases (show j = 0 ∨ j = 1 ∨ j = 2 ∨ j = 3 ∨ j = 4 by omega) with rfl | rfl | rfl | rfl | rfl <;> first | exact c_11_0 e | exact c_11_1 e | exact c_11_2 e | exact c_11_3 e | exact c_11_4 e)) (by decide) ?_
              refine lv_bipush (v := (-2)) hx hb dX5_player_82 (by decide) ?_
              subst hu
              exact hg_ri hx hb hr hlk rfl hP hD hS dX5_player_84
  · have hu := hu.trans (if_pos c_5)
    refine lv_iconst (v := (-1)) hx hb dX5_player_8 (by decide) ?_
    subst hu
    exact hg_ri hx hb hr hlk rfl hP hD hS dX5_player_9

set_option maxHeartbeats 4000000 in
set_option maxRecDepth 100000 in
theorem c_X5_score (l : Launch) (dC : Nat → ClassId) (dI : Nat → Nat → Nat) (cI cZ cM : ClassId) (sz : Nat) (o_h : Nat) (x0 : Int32) (x1 : Int32) (o_players : Int32) (o_bars : Int32) (o_price : Nat) (o_breath : Nat) (o_kind : Nat) (o_looks : Nat) (o_noise : Nat) (o_repeat : Nat) (o_now : Nat) (o_readPlayer : Nat) (o_readBar : Nat) (o_readPlayers : Int32) (o_readBars : Int32) (o_text : Nat) (o_length : Int32) (o_at : Int32) (o_faultAt : Int32) (o_acts : Int32) (o_next : Int32) (o_row : Nat) (o_heard : Int32) (o_heardOf : Nat) (o_heardBars : Nat) (o_heardPlays : Nat) (o_hushWho : Int32) (o_hushSum : Int32) (o_seed : Int64) (o_isKept : Nat) (o_kept : Nat) (o_now_v : Nat → Int32) (o_repeat_v : Nat → Int32) (o_noise_v : Nat → Int32) (np : Nat) (enp : o_players = nI np) (hnp : np ≤ 6) (nb : Nat) (enb : o_bars = nI nb) (hnb : nb ≤ 8) (u : Int32) (hu : u = f_X5_score x0 x1 o_bars o_now_v o_repeat_v o_noise_v) : Met l yX5_score wsX5_score { frames := 1, cells := 0, slots := 0, locals := 25 } (hgPc [.ref o_h, .int x0, .int x1] (dC, dI) cI cZ cM [(o_h, .inr (5, [.int o_players, .int o_bars, .ref o_price, .ref o_breath, .ref o_kind, .ref o_looks, .ref o_noise, .ref o_repeat, .ref o_now, .ref o_readPlayer, .ref o_readBar, .int o_readPlayers, .int o_readBars, .ref o_text, .int o_length, .int o_at, .int o_faultAt, .int o_acts, .int o_next, .ref o_row, .int o_heard, .ref o_heardOf, .ref o_heardBars, .ref o_heardPlays, .int o_hushWho, .int o_hushSum, .long o_seed, .ref o_isKept, .ref o_kept])), (o_now, .inl (cI, 32, .inl o_now_v)), (o_repeat, .inl (cI, 8, .inl o_repeat_v)), (o_noise, .inl (cI, 8, .inl o_noise_v))] sz) (hgQi (dC, dI) u [(o_h, .inr (5, [.int o_players, .int o_bars, .ref o_price, .ref o_breath, .ref o_kind, .ref o_looks, .ref o_noise, .ref o_repeat, .ref o_now, .ref o_readPlayer, .ref o_readBar, .int o_readPlayers, .int o_readBars, .ref o_text, .int o_length, .int o_at, .int o_faultAt, .int o_acts, .int o_next, .ref o_row, .int o_heard, .ref o_heardOf, .ref o_heardBars, .ref o_heardPlays, .int o_hushWho, .int o_hushSum, .long o_seed, .ref o_isKept, .ref o_kept])), (o_now, .inl (cI, 32, .inl o_now_v)), (o_repeat, .inl (cI, 8, .inl o_repeat_v)), (o_noise, .inl (cI, 8, .inl o_noise_v))] (va_A [(o_h, .inr (5, [.int o_players, .int o_bars, .ref o_price, .ref o_breath, .ref o_kind, .ref o_looks, .ref o_noise, .ref o_repeat, .ref o_now, .ref o_readPlayer, .ref o_readBar, .int o_readPlayers, .int o_readBars, .ref o_text, .int o_length, .int o_at, .int o_faultAt, .int o_acts, .int o_next, .ref o_row, .int o_heard, .ref o_heardOf, .ref o_heardBars, .ref o_heardPlays, .int o_hushWho, .int o_hushSum, .long o_seed, .ref o_isKept, .ref o_kept])), (o_now, .inl (cI, 32, .inl o_now_v)), (o_repeat, .inl (cI, 8, .inl o_repeat_v)), (o_noise, .inl (cI, 8, .inl o_noise_v))] sz)) 0 0 (va_A [(o_h, .inr (5, [.int o_players, .int o_bars, .ref o_price, .ref o_breath, .ref o_kind, .ref o_looks, .ref o_noise, .ref o_repeat, .ref o_now, .ref o_readPlayer, .ref o_readBar, .int o_readPlayers, .int o_readBars, .ref o_text, .int o_length, .int o_at, .int o_faultAt, .int o_acts, .int o_next, .ref o_row, .int o_heard, .ref o_heardOf, .ref o_heardBars, .ref o_heardPlays, .int o_hushWho, .int o_hushSum, .long o_seed, .ref o_isKept, .ref o_kept])), (o_now, .inl (cI, 32, .inl o_now_v)), (o_repeat, .inl (cI, 8, .inl o_repeat_v)), (o_noise, .inl (cI, 8, .inl o_noise_v))] sz) := by
  refine hg_ofW (cc := cX5_score) (maxL := 3) (ret := (some .int)) (own := RX5) (fun A => hgQi (dC, dI) u [(o_h, .inr (5, [.int o_players, .int o_bars, .ref o_price, .ref o_breath, .ref o_kind, .ref o_looks, .ref o_noise, .ref o_repeat, .ref o_now, .ref o_readPlayer, .ref o_readBar, .int o_readPlayers, .int o_readBars, .ref o_text, .int o_length, .int o_at, .int o_faultAt, .int o_acts, .int o_next, .ref o_row, .int o_heard, .ref o_heardOf, .ref o_heardBars, .ref o_heardPlays, .int o_hushWho, .int o_hushSum, .long o_seed, .ref o_isKept, .ref o_kept])), (o_now, .inl (cI, 32, .inl o_now_v)), (o_repeat, .inl (cI, 8, .inl o_repeat_v)), (o_noise, .inl (cI, 8, .inl o_noise_v))] A) rfl (by decide) rfl (Nat.le_of_ble_eq_true rfl) ?_
  intro p e s m below meth c ls A hsz hx hb hr hml hown hts hlk hnm hK hN hA hP hD hS hl
  subst hsz
  have w1 := hts (.fieldLink RX5 96 "HatGoesRoundModel" "bars" "I") (List.mem_of_getElem? (i := 1) rfl)
  have hinX5 : ∀ w ∈ u_ws RX5 TX5 29, w ∈ wsX5_score := fun _ h => List.mem_cons_of_mem _ (List.mem_append_right _ h)
  have w4 := hts (.fieldLink RX5 28 "HatGoesRoundModel" "now" "[I") (List.mem_of_getElem? (i := 4) rfl)
  have w3 := hts (.fieldLink RX5 25 "HatGoesRoundModel" "repeat" "[I") (List.mem_of_getElem? (i := 3) rfl)
  have w2 := hts (.fieldLink RX5 22 "HatGoesRoundModel" "noise" "[I") (List.mem_of_getElem? (i := 2) rfl)
  have hl : lv_has ls 3 [(0, .ref o_h), (1, .int x0), (2, .int x1)] := hl
  unfold f_X5_score at hu
  refine lv_iload_n hx hb dX5_score_0 rfl (lv_at hl 1 rfl) ?_
  refine lv_i2l (v := (Int32.toInt64 x0)) hx hb dX5_score_1 rfl ?_
  refine lv_lconst (v := 0) hx hb dX5_score_2 (by decide) ?_
  refine lv_aload_n hx hb dX5_score_3 rfl (lv_at hl 0 rfl) ?_
  refine va_get (D := (dC, dI)) (ci := 5) (v := .int o_bars) (C := RX5) (T := TX5) (N := 29) hx hb hts hinX5 hown hK hP 0 rfl rfl 1 (by decide) w1 (fun _ h9 => h9) rfl dX5_score_4 ?_
  refine lv_iconst (v := 1) hx hb dX5_score_7 (by decide) ?_
  refine lv_isub hx hb dX5_score_8 ?_
  refine lv_i2l (v := (Int32.toInt64 (o_bars - 1))) hx hb dX5_score_9 rfl ?_
  obtain ⟨r1, er1, hu⟩ := lxb_o hu
  refine hg_ci (va_runS (As := [.long (Int32.toInt64 x0), .long 0, .long (Int32.toInt64 (o_bars - 1))]) (rest := []) ⟨hx, hb, hml, hown, hts⟩ (c_X5_in l dC dI cI cZ cM _ (Int32.toInt64 x0) 0 (Int32.toInt64 (o_bars - 1)) r1 er1) (va_cwS 3 hts gX5_score_X5_in rfl rfl rfl (by decide +kernel) ⟨Nat.le_of_ble_eq_true rfl, Nat.le_of_ble_eq_true rfl⟩) (hgPreS hP hD hK hN [] rfl rfl) rfl rfl hl.1 rfl (lv_room (Nat.le_of_ble_eq_true rfl)) dX5_score_10 ⟨Nat.zero_le _, Nat.zero_le _⟩) hP hD hS hA (wr := [(o_h, .inr (5, [.int o_players, .int o_bars, .ref o_price, .ref o_breath, .ref o_kind, .ref o_looks, .ref o_noise, .ref o_repeat, .ref o_now, .ref o_readPlayer, .ref o_readBar, .int o_readPlayers, .int o_readBars, .ref o_text, .int o_length, .int o_at, .int o_faultAt, .int o_acts, .int o_next, .ref o_row, .int o_heard, .ref o_heardOf, .ref o_heardBars, .ref o_heardPlays, .int o_hushWho, .int o_hushSum, .long o_seed, .ref o_isKept, .ref o_kept])), (o_now, .inl (cI, 32, .inl o_now_v)), (o_repeat, .inl (cI, 8, .inl o_repeat_v)), (o_noise, .inl (cI, 8, .inl o_noise_v))]) (wf := [(o_h, .inr (5, [.int o_players, .int o_bars, .ref o_price, .ref o_breath, .ref o_kind, .ref o_looks, .ref o_noise, .ref o_repeat, .ref o_now, .ref o_readPlayer, .ref o_readBar, .int o_readPlayers, .int o_readBars, .ref o_text, .int o_length, .int o_at, .int o_faultAt, .int o_acts, .int o_next, .ref o_row, .int o_heard, .ref o_heardOf, .ref o_heardBars, .ref o_heardPlays, .int o_hushWho, .int o_hushSum, .long o_seed, .ref o_isKept, .ref o_kept])), (o_now, .inl (cI, 32, .inl o_now_v)), (o_repeat, .inl (cI, 8, .inl o_repeat_v)), (o_noise, .inl (cI, 8, .inl o_noise_v))]) [] [0, 1, 2, 3] [0, 1, 2, 3] rfl rfl rfl (by decide) rfl rfl (fun H locs hP hD hS => ?_)
  refine lv_if_ne (tgt := 18) hx hb dX5_score_13 (by decide) (fun c_13 => ?_) (fun c_13 => ?_)
  · have hu := hu.trans (if_neg c_13)
    obtain ⟨jp, hjp, ejp⟩ := mPb enb hnb er1 c_13
    refine lv_iload_n hx hb dX5_score_18 rfl (lv_at hl 2 rfl) ?_
    refine lv_if_ne (tgt := 31) hx hb dX5_score_19 (by decide) (fun c_19 => ?_) (fun c_19 => ?_)
    · have hu := hu.trans (if_neg c_19)
      refine lv_iload_n hx hb dX5_score_31 rfl (lv_at hl 2 rfl) ?_
      refine lv_iconst (v := 1) hx hb dX5_score_32 (by decide) ?_
      refine lv_icmp_ne (tgt := 45) hx hb dX5_score_33 (by decide) (fun c_33 => ?_) (fun c_33 => ?_)
      · have hu := hu.trans (if_neg c_33)
        refine lv_iload_n hx hb dX5_score_45 rfl (lv_at hl 2 rfl) ?_
        refine lv_iconst (v := 2) hx hb dX5_score_46 (by decide) ?_
        refine lv_icmp_ne (tgt := 64) hx hb dX5_score_47 (by decide) (fun c_47 => ?_) (fun c_47 => ?_)
        · have hu := hu.trans (if_neg c_47)
          refine lv_bipush (v := (-2)) hx hb dX5_score_64 (by decide) ?_
          subst hu
          exact hg_ri hx hb hr hlk rfl hP hD hS dX5_score_66
        · have hu := hu.trans (if_pos c_47)
          refine lv_aload_n hx hb dX5_score_50 rfl (lv_at hl 0 rfl) ?_
          refine va_get (D := (dC, dI)) (ci := 5) (v := .ref o_now) (C := RX5) (T := TX5) (N := 29) hx hb hts hinX5 hown hK hP 0 rfl rfl 8 (by decide) w4 (fun _ h9 => h9) rfl dX5_score_51 ?_
          refine lv_bipush (v := 13) hx hb dX5_score_54 (by decide) ?_
          refine va_iald hx hb hK hP 1 0 rfl rfl (n := 32) (f := o_now_v) (hg_in (n := 13) (N := 32) (show (13 : Int32) = nI 13 from rfl) (by omega) (by decide)) dX5_score_56 ?_
          refine lv_iload_n hx hb dX5_score_57 rfl (lv_at hl 1 rfl) ?_
          refine lv_ishr hx hb dX5_score_58 ?_
          refine lv_iconst (v := 1) hx hb dX5_score_59 (by decide) ?_
          refine lv_iand hx hb dX5_score_60 ?_
          refine lv_goto (tgt := 66) hx hb dX5_score_61 (by decide) ?_
          subst hu
          exact hg_ri hx hb hr hlk rfl hP hD hS dX5_score_66
      · have hu := hu.trans (if_pos c_33)
        refine lv_aload_n hx hb dX5_score_36 rfl (lv_at hl 0 rfl) ?_
        refine va_get (D := (dC, dI)) (ci := 5) (v := .ref o_repeat) (C := RX5) (T := TX5) (N := 29) hx hb hts hinX5 hown hK hP 0 rfl rfl 7 (by decide) w3 (fun _ h9 => h9) rfl dX5_score_37 ?_
        refine lv_iload_n hx hb dX5_score_40 rfl (lv_at hl 1 rfl) ?_
        refine va_iald hx hb hK hP 2 0 rfl rfl (n := 8) (f := o_repeat_v) (hg_in (n := jp) (N := 8) ejp (by omega) (by decide)) dX5_score_41 ?_
        refine lv_goto (tgt := 66) hx hb dX5_score_42 (by decide) ?_
        subst hu
        exact hg_ri hx hb hr hlk rfl hP hD hS dX5_score_66
    · have hu := hu.trans (if_pos c_19)
      refine lv_aload_n hx hb dX5_score_22 rfl (lv_at hl 0 rfl) ?_
      refine va_get (D := (dC, dI)) (ci := 5) (v := .ref o_noise) (C := RX5) (T := TX5) (N := 29) hx hb hts hinX5 hown hK hP 0 rfl rfl 6 (by decide) w2 (fun _ h9 => h9) rfl dX5_score_23 ?_
      refine lv_iload_n hx hb dX5_score_26 rfl (lv_at hl 1 rfl) ?_
      refine va_iald hx hb hK hP 3 0 rfl rfl (n := 8) (f := o_noise_v) (hg_in (n := jp) (N := 8) ejp (by omega) (by decide)) dX5_score_27 ?_
      refine lv_goto (tgt := 66) hx hb dX5_score_28 (by decide) ?_
      subst hu
      exact hg_ri hx hb hr hlk rfl hP hD hS dX5_score_66
  · have hu := hu.trans (if_pos c_13)
    refine lv_iconst (v := (-1)) hx hb dX5_score_16 (by decide) ?_
    subst hu
    exact hg_ri hx hb hr hlk rfl hP hD hS dX5_score_17

set_option maxHeartbeats 4000000 in
set_option maxRecDepth 100000 in
theorem c_X5_keepAct (l : Launch) (dC : Nat → ClassId) (dI : Nat → Nat → Nat) (cI cZ cM : ClassId) (sz : Nat) (o_h : Nat) (o_players : Int32) (o_bars : Int32) (o_price : Nat) (o_breath : Nat) (o_kind : Nat) (o_looks : Nat) (o_noise : Nat) (o_repeat : Nat) (o_now : Nat) (o_readPlayer : Nat) (o_readBar : Nat) (o_readPlayers : Int32) (o_readBars : Int32) (o_text : Nat) (o_length : Int32) (o_at : Int32) (o_faultAt : Int32) (o_acts : Int32) (o_next : Int32) (o_row : Nat) (o_heard : Int32) (o_heardOf : Nat) (o_heardBars : Nat) (o_heardPlays : Nat) (o_hushWho : Int32) (o_hushSum : Int32) (o_seed : Int64) (o_isKept : Nat) (o_kept : Nat) (o_now_v : Nat → Int32) (o_row_v : Nat → Int32) (np : Nat) (enp : o_players = nI np) (hnp : np ≤ 6) (nb : Nat) (enb : o_bars = nI nb) (hnb : nb ≤ 8) (nx : Nat) (enx : o_next = nI nx) (hnx : nx < 14) (u : Int32 × Int32 × (Nat → Int32)) (hu : u = f_X5_keepAct o_acts o_next o_now_v o_row_v) : Met l yX5_keepAct wsX5_keepAct { frames := 0, cells := 0, slots := 0, locals := 0 } (hgPc [.ref o_h] (dC, dI) cI cZ cM [(o_h, .inr (5, [.int o_players, .int o_bars, .ref o_price, .ref o_breath, .ref o_kind, .ref o_looks, .ref o_noise, .ref o_repeat, .ref o_now, .ref o_readPlayer, .ref o_readBar, .int o_readPlayers, .int o_readBars, .ref o_text, .int o_length, .int o_at, .int o_faultAt, .int o_acts, .int o_next, .ref o_row, .int o_heard, .ref o_heardOf, .ref o_heardBars, .ref o_heardPlays, .int o_hushWho, .int o_hushSum, .long o_seed, .ref o_isKept, .ref o_kept])), (o_now, .inl (cI, 32, .inl o_now_v)), (o_row, .inl (cI, 224, .inl o_row_v))] sz) (hgQv (dC, dI) [(o_h, .inr (5, [.int o_players, .int o_bars, .ref o_price, .ref o_breath, .ref o_kind, .ref o_looks, .ref o_noise, .ref o_repeat, .ref o_now, .ref o_readPlayer, .ref o_readBar, .int o_readPlayers, .int o_readBars, .ref o_text, .int o_length, .int o_at, .int o_faultAt, .int u.1, .int u.2.1, .ref o_row, .int o_heard, .ref o_heardOf, .ref o_heardBars, .ref o_heardPlays, .int o_hushWho, .int o_hushSum, .long o_seed, .ref o_isKept, .ref o_kept])), (o_now, .inl (cI, 32, .inl o_now_v)), (o_row, .inl (cI, 224, .inl u.2.2))] (va_A [(o_h, .inr (5, [.int o_players, .int o_bars, .ref o_price, .ref o_breath, .ref o_kind, .ref o_looks, .ref o_noise, .ref o_repeat, .ref o_now, .ref o_readPlayer, .ref o_readBar, .int o_readPlayers, .int o_readBars, .ref o_text, .int o_length, .int o_at, .int o_faultAt, .int o_acts, .int o_next, .ref o_row, .int o_heard, .ref o_heardOf, .ref o_heardBars, .ref o_heardPlays, .int o_hushWho, .int o_hushSum, .long o_seed, .ref o_isKept, .ref o_kept])), (o_now, .inl (cI, 32, .inl o_now_v)), (o_row, .inl (cI, 224, .inl o_row_v))] sz)) 0 0 (va_A [(o_h, .inr (5, [.int o_players, .int o_bars, .ref o_price, .ref o_breath, .ref o_kind, .ref o_looks, .ref o_noise, .ref o_repeat, .ref o_now, .ref o_readPlayer, .ref o_readBar, .int o_readPlayers, .int o_readBars, .ref o_text, .int o_length, .int o_at, .int o_faultAt, .int o_acts, .int o_next, .ref o_row, .int o_heard, .ref o_heardOf, .ref o_heardBars, .ref o_heardPlays, .int o_hushWho, .int o_hushSum, .long o_seed, .ref o_isKept, .ref o_kept])), (o_now, .inl (cI, 32, .inl o_now_v)), (o_row, .inl (cI, 224, .inl o_row_v))] sz) := by
  refine hg_ofW (cc := cX5_keepAct) (maxL := 2) (ret := none) (own := RX5) (fun A => hgQv (dC, dI) [(o_h, .inr (5, [.int o_players, .int o_bars, .ref o_price, .ref o_breath, .ref o_kind, .ref o_looks, .ref o_noise, .ref o_repeat, .ref o_now, .ref o_readPlayer, .ref o_readBar, .int o_readPlayers, .int o_readBars, .ref o_text, .int o_length, .int o_at, .int o_faultAt, .int u.1, .int u.2.1, .ref o_row, .int o_heard, .ref o_heardOf, .ref o_heardBars, .ref o_heardPlays, .int o_hushWho, .int o_hushSum, .long o_seed, .ref o_isKept, .ref o_kept])), (o_now, .inl (cI, 32, .inl o_now_v)), (o_row, .inl (cI, 224, .inl u.2.2))] A) rfl (by decide) rfl (Nat.le_of_ble_eq_true rfl) ?_
  intro p e s m below meth c ls A hsz hx hb hr hml hown hts hlk hnm hK hN hA hP hD hS hl
  subst hsz
  have w1 := hts (.fieldLink RX5 40 "HatGoesRoundModel" "row" "[I") (List.mem_of_getElem? (i := 1) rfl)
  have hinX5 : ∀ w ∈ u_ws RX5 TX5 29, w ∈ wsX5_keepAct := fun _ h => List.mem_cons_of_mem _ (List.mem_append_right _ h)
  have w2 := hts (.fieldLink RX5 133 "HatGoesRoundModel" "next" "I") (List.mem_of_getElem? (i := 2) rfl)
  have w3 := hts (.fieldLink RX5 28 "HatGoesRoundModel" "now" "[I") (List.mem_of_getElem? (i := 3) rfl)
  have w4 := hts (.fieldLink RX5 99 "HatGoesRoundModel" "acts" "I") (List.mem_of_getElem? (i := 4) rfl)
  have hl : lv_has ls 2 [(0, .ref o_h)] := hl
  unfold f_X5_keepAct at hu
  refine lv_iconst (v := 0) hx hb dX5_keepAct_0 (by decide) ?_
  refine lv_istore_n (lv' := [(1, .int 0), (0, .ref o_h)]) hx hb dX5_keepAct_1 rfl hl (by decide) rfl (fun ls hl => ?_)
  obtain ⟨r2, er2, hu⟩ := lxb_o hu
  refine hg_loopF (T := (Nat → Int32)) (N := (itn 0 16)) (fun v2 => [(o_h, .inr (5, [.int o_players, .int o_bars, .ref o_price, .ref o_breath, .ref o_kind, .ref o_looks, .ref o_noise, .ref o_repeat, .ref o_now, .ref o_readPlayer, .ref o_readBar, .int o_readPlayers, .int o_readBars, .ref o_text, .int o_length, .int o_at, .int o_faultAt, .int o_acts, .int o_next, .ref o_row, .int o_heard, .ref o_heardOf, .ref o_heardBars, .ref o_heardPlays, .int o_hushWho, .int o_hushSum, .long o_seed, .ref o_isKept, .ref o_kept])), (o_now, .inl (cI, 32, .inl o_now_v)), (o_row, .inl (cI, 224, .inl v2))]) (fun k2 v2 => [(0, .ref o_h), (1, .int (nI k2))]) (fun k2 => l_X5_keepAct_2 o_next o_now_v o_row_v k2) ?_ ?_ hP hD hS (lv_sub hl [1, 0] rfl)
  · intro v2 hv H locs ls hP hD hS hl
    obtain rfl : r2 = v2 := er2.trans hv.symm
    have hP : va_P (dC, dI) vwCl [(o_h, .inr (5, [.int o_players, .int o_bars, .ref o_price, .ref o_breath, .ref o_kind, .ref o_looks, .ref o_noise, .ref o_repeat, .ref o_now, .ref o_readPlayer, .ref o_readBar, .int o_readPlayers, .int o_readBars, .ref o_text, .int o_length, .int o_at, .int o_faultAt, .int o_acts, .int o_next, .ref o_row, .int o_heard, .ref o_heardOf, .ref o_heardBars, .ref o_heardPlays, .int o_hushWho, .int o_hushSum, .long o_seed, .ref o_isKept, .ref o_kept])), (o_now, .inl (cI, 32, .inl o_now_v)), (o_row, .inl (cI, 224, .inl r2))] H := hP
    have hD : va_D A [(o_h, .inr (5, [.int o_players, .int o_bars, .ref o_price, .ref o_breath, .ref o_kind, .ref o_looks, .ref o_noise, .ref o_repeat, .ref o_now, .ref o_readPlayer, .ref o_readBar, .int o_readPlayers, .int o_readBars, .ref o_text, .int o_length, .int o_at, .int o_faultAt, .int o_acts, .int o_next, .ref o_row, .int o_heard, .ref o_heardOf, .ref o_heardBars, .ref o_heardPlays, .int o_hushWho, .int o_hushSum, .long o_seed, .ref o_isKept, .ref o_kept])), (o_now, .inl (cI, 32, .inl o_now_v)), (o_row, .inl (cI, 224, .inl r2))] := hD
    have hl : lv_has ls 2 [(0, .ref o_h), (1, .int (nI (itn 0 16)))] := hl
    refine lv_iload_n hx hb dX5_keepAct_2 rfl (lv_at hl 1 rfl) ?_
    refine lv_bipush (v := 16) hx hb dX5_keepAct_3 (by decide) ?_
    refine lv_icmp_ge (tgt := 34) hx hb dX5_keepAct_5 (by decide) (fun c_5 => ?_) (fun c_5 => absurd hg_lo0 c_5)
    refine lv_aload_n hx hb dX5_keepAct_34 rfl (lv_at hl 0 rfl) ?_
    refine lv_aload_n hx hb dX5_keepAct_35 rfl (lv_at hl 0 rfl) ?_
    refine va_get (D := (dC, dI)) (ci := 5) (v := .int o_next) (C := RX5) (T := TX5) (N := 29) hx hb hts hinX5 hown hK hP 0 rfl rfl 18 (by decide) w2 (fun _ h9 => h9) rfl dX5_keepAct_36 ?_
    refine lv_iconst (v := 1) hx hb dX5_keepAct_39 (by decide) ?_
    refine lv_iadd hx hb dX5_keepAct_40 ?_
    refine lv_bipush (v := 14) hx hb dX5_keepAct_41 (by decide) ?_
    refine lv_irem hx hb dX5_keepAct_43 (by decide) ?_
    obtain ⟨y3, ey3, hu⟩ := lxb_o hu
    refine lv_topi (fun z ez => ?_)
    obtain rfl : y3 = z := ey3.trans ez.symm
    refine va_put (D := (dC, dI)) (ci := 5) (v := .int y3) (ty := .int) (C := RX5) (T := TX5) (N := 29) hx hb hts hinX5 tyX5 tyX5_ok nmX5 hown hK hP hD hS 0 rfl rfl 18 (by decide) w2 (fun _ h9 => h9) rfl (by decide +kernel) rfl rfl (Nat.le_of_ble_eq_true rfl) dX5_keepAct_44 (fun H locs hP hD hS => ?_)
    have hP : va_P (dC, dI) vwCl [(o_h, .inr (5, [.int o_players, .int o_bars, .ref o_price, .ref o_breath, .ref o_kind, .ref o_looks, .ref o_noise, .ref o_repeat, .ref o_now, .ref o_readPlayer, .ref o_readBar, .int o_readPlayers, .int o_readBars, .ref o_text, .int o_length, .int o_at, .int o_faultAt, .int o_acts, .int y3, .ref o_row, .int o_heard, .ref o_heardOf, .ref o_heardBars, .ref o_heardPlays, .int o_hushWho, .int o_hushSum, .long o_seed, .ref o_isKept, .ref o_kept])), (o_now, .inl (cI, 32, .inl o_now_v)), (o_row, .inl (cI, 224, .inl r2))] H := hP
    have hD : va_D A [(o_h, .inr (5, [.int o_players, .int o_bars, .ref o_price, .ref o_breath, .ref o_kind, .ref o_looks, .ref o_noise, .ref o_repeat, .ref o_now, .ref o_readPlayer, .ref o_readBar, .int o_readPlayers, .int o_readBars, .ref o_text, .int o_length, .int o_at, .int o_faultAt, .int o_acts, .int y3, .ref o_row, .int o_heard, .ref o_heardOf, .ref o_heardBars, .ref o_heardPlays, .int o_hushWho, .int o_hushSum, .long o_seed, .ref o_isKept, .ref o_kept])), (o_now, .inl (cI, 32, .inl o_now_v)), (o_row, .inl (cI, 224, .inl r2))] := hD
    refine lv_aload_n hx hb dX5_keepAct_47 rfl (lv_at hl 0 rfl) ?_
    refine lv_aload_n hx hb dX5_keepAct_48 rfl (lv_at hl 0 rfl) ?_
    refine va_get (D := (dC, dI)) (ci := 5) (v := .int o_acts) (C := RX5) (T := TX5) (N := 29) hx hb hts hinX5 hown hK hP 0 rfl rfl 17 (by decide) w4 (fun _ h9 => h9) rfl dX5_keepAct_49 ?_
    refine lv_bipush (v := 14) hx hb dX5_keepAct_52 (by decide) ?_
    obtain ⟨z4, ez4, hu⟩ := lxb_o hu
    refine hg_cut (D := (dC, dI)) (A0 := A) (H0 := s.heap) (ws := [(o_h, .inr (5, [.int o_players, .int o_bars, .ref o_price, .ref o_breath, .ref o_kind, .ref o_looks, .ref o_noise, .ref o_repeat, .ref o_now, .ref o_readPlayer, .ref o_readBar, .int o_readPlayers, .int o_readBars, .ref o_text, .int o_length, .int o_at, .int o_faultAt, .int o_acts, .int y3, .ref o_row, .int o_heard, .ref o_heardOf, .ref o_heardBars, .ref o_heardPlays, .int o_hushWho, .int o_hushSum, .long o_seed, .ref o_isKept, .ref o_kept])), (o_now, .inl (cI, 32, .inl o_now_v)), (o_row, .inl (cI, 224, .inl r2))]) (g := F0 m 68 ls [.int z4, .ref o_h]) ?_ (fun hJ => ?_)
    · intro H locs hP hD hS
      refine va_put (D := (dC, dI)) (ci := 5) (v := .int z4) (ty := .int) (C := RX5) (T := TX5) (N := 29) hx hb hts hinX5 tyX5 tyX5_ok nmX5 hown hK hP hD hS 0 rfl rfl 17 (by decide) w4 (fun _ h9 => h9) rfl (by decide +kernel) rfl rfl (Nat.le_of_ble_eq_true rfl) dX5_keepAct_68 (fun H locs hP hD hS => ?_)
      have hP : va_P (dC, dI) vwCl [(o_h, .inr (5, [.int o_players, .int o_bars, .ref o_price, .ref o_breath, .ref o_kind, .ref o_looks, .ref o_noise, .ref o_repeat, .ref o_now, .ref o_readPlayer, .ref o_readBar, .int o_readPlayers, .int o_readBars, .ref o_text, .int o_length, .int o_at, .int o_faultAt, .int z4, .int y3, .ref o_row, .int o_heard, .ref o_heardOf, .ref o_heardBars, .ref o_heardPlays, .int o_hushWho, .int o_hushSum, .long o_seed, .ref o_isKept, .ref o_kept])), (o_now, .inl (cI, 32, .inl o_now_v)), (o_row, .inl (cI, 224, .inl r2))] H := hP
      have hD : va_D A [(o_h, .inr (5, [.int o_players, .int o_bars, .ref o_price, .ref o_breath, .ref o_kind, .ref o_looks, .ref o_noise, .ref o_repeat, .ref o_now, .ref o_readPlayer, .ref o_readBar, .int o_readPlayers, .int o_readBars, .ref o_text, .int o_length, .int o_at, .int o_faultAt, .int z4, .int y3, .ref o_row, .int o_heard, .ref o_heardOf, .ref o_heardBars, .ref o_heardPlays, .int o_hushWho, .int o_hushSum, .long o_seed, .ref o_isKept, .ref o_kept])), (o_now, .inl (cI, 32, .inl o_now_v)), (o_row, .inl (cI, 224, .inl r2))] := hD
      subst hu
      exact hg_rv hx hb hr hlk hP hD hS dX5_keepAct_71
    · refine lv_icmp_ge (tgt := 66) hx hb dX5_keepAct_54 (by decide) (fun c_54 => ?_) (fun c_54 => ?_)
      · have ez4 := ez4.trans (if_pos c_54)
        refine lv_bipush (v := 14) hx hb dX5_keepAct_66 (by decide) ?_
        subst ez4
        exact hJ _ _ hP hD hS
      · have ez4 := ez4.trans (if_neg c_54)
        refine lv_aload_n hx hb dX5_keepAct_57 rfl (lv_at hl 0 rfl) ?_
        refine va_get (D := (dC, dI)) (ci := 5) (v := .int o_acts) (C := RX5) (T := TX5) (N := 29) hx hb hts hinX5 hown hK hP 0 rfl rfl 17 (by decide) w4 (fun _ h9 => h9) rfl dX5_keepAct_58 ?_
        refine lv_iconst (v := 1) hx hb dX5_keepAct_61 (by decide) ?_
        refine lv_iadd hx hb dX5_keepAct_62 ?_
        refine lv_goto (tgt := 68) hx hb dX5_keepAct_63 (by decide) ?_
        subst ez4
        exact hJ _ _ hP hD hS
  · intro k2 hk v2 hv w hw ih H locs ls hP hD hS hl
    have hw : w = b_X5_keepAct_2 o_next o_now_v k2 v2 := by rw [hw, hv]; rfl
    unfold b_X5_keepAct_2 at hw
    have hkb : k2 < 16 := Nat.lt_of_lt_of_le hk (by decide)
    have hP : va_P (dC, dI) vwCl [(o_h, .inr (5, [.int o_players, .int o_bars, .ref o_price, .ref o_breath, .ref o_kind, .ref o_looks, .ref o_noise, .ref o_repeat, .ref o_now, .ref o_readPlayer, .ref o_readBar, .int o_readPlayers, .int o_readBars, .ref o_text, .int o_length, .int o_at, .int o_faultAt, .int o_acts, .int o_next, .ref o_row, .int o_heard, .ref o_heardOf, .ref o_heardBars, .ref o_heardPlays, .int o_hushWho, .int o_hushSum, .long o_seed, .ref o_isKept, .ref o_kept])), (o_now, .inl (cI, 32, .inl o_now_v)), (o_row, .inl (cI, 224, .inl v2))] H := hP
    have hD : va_D A [(o_h, .inr (5, [.int o_players, .int o_bars, .ref o_price, .ref o_breath, .ref o_kind, .ref o_looks, .ref o_noise, .ref o_repeat, .ref o_now, .ref o_readPlayer, .ref o_readBar, .int o_readPlayers, .int o_readBars, .ref o_text, .int o_length, .int o_at, .int o_faultAt, .int o_acts, .int o_next, .ref o_row, .int o_heard, .ref o_heardOf, .ref o_heardBars, .ref o_heardPlays, .int o_hushWho, .int o_hushSum, .long o_seed, .ref o_isKept, .ref o_kept])), (o_now, .inl (cI, 32, .inl o_now_v)), (o_row, .inl (cI, 224, .inl v2))] := hD
    have hl : lv_has ls 2 [(0, .ref o_h), (1, .int (nI k2))] := hl
    refine lv_iload_n hx hb dX5_keepAct_2 rfl (lv_at hl 1 rfl) ?_
    refine lv_bipush (v := 16) hx hb dX5_keepAct_3 (by decide) ?_
    refine lv_icmp_ge (tgt := 34) hx hb dX5_keepAct_5 (by decide) (fun c_5 => absurd c_5 (hg_lo1 hk)) (fun c_5 => ?_)
    refine lv_aload_n hx hb dX5_keepAct_8 rfl (lv_at hl 0 rfl) ?_
    refine va_get (D := (dC, dI)) (ci := 5) (v := .ref o_row) (C := RX5) (T := TX5) (N := 29) hx hb hts hinX5 hown hK hP 0 rfl rfl 19 (by decide) w1 (fun _ h9 => h9) rfl dX5_keepAct_9 ?_
    refine lv_bipush (v := 16) hx hb dX5_keepAct_12 (by decide) ?_
    refine lv_aload_n hx hb dX5_keepAct_14 rfl (lv_at hl 0 rfl) ?_
    refine va_get (D := (dC, dI)) (ci := 5) (v := .int o_next) (C := RX5) (T := TX5) (N := 29) hx hb hts hinX5 hown hK hP 0 rfl rfl 18 (by decide) w2 (fun _ h9 => h9) rfl dX5_keepAct_15 ?_
    refine lv_imul hx hb dX5_keepAct_18 ?_
    refine lv_iload_n hx hb dX5_keepAct_19 rfl (lv_at hl 1 rfl) ?_
    refine lv_iadd hx hb dX5_keepAct_20 ?_
    refine lv_aload_n hx hb dX5_keepAct_21 rfl (lv_at hl 0 rfl) ?_
    refine va_get (D := (dC, dI)) (ci := 5) (v := .ref o_now) (C := RX5) (T := TX5) (N := 29) hx hb hts hinX5 hown hK hP 0 rfl rfl 8 (by decide) w3 (fun _ h9 => h9) rfl dX5_keepAct_22 ?_
    refine lv_iload_n hx hb dX5_keepAct_25 rfl (lv_at hl 1 rfl) ?_
    refine va_iald hx hb hK hP 1 0 rfl rfl (n := 32) (f := o_now_v) (hg_in (n := k2) (N := 32) rfl (by omega) (by decide)) dX5_keepAct_26 ?_
    obtain ⟨y1, ey1, hw⟩ := lxb_o hw
    refine lv_topi (fun z ez => ?_)
    obtain rfl : y1 = z := ey1.trans ez.symm
    refine va_iast hx hb hK hP hD hS 2 0 rfl rfl (n := 224) (f := v2) (hg_in (n := ((16 * nx) + k2)) (N := 224) (nx_add (nx_mul (show (16 : Int32) = nI 16 from rfl) enx) rfl) (by omega) (by decide)) dX5_keepAct_27 (fun H locs hP hD hS => ?_)
    have hP : va_P (dC, dI) vwCl [(o_h, .inr (5, [.int o_players, .int o_bars, .ref o_price, .ref o_breath, .ref o_kind, .ref o_looks, .ref o_noise, .ref o_repeat, .ref o_now, .ref o_readPlayer, .ref o_readBar, .int o_readPlayers, .int o_readBars, .ref o_text, .int o_length, .int o_at, .int o_faultAt, .int o_acts, .int o_next, .ref o_row, .int o_heard, .ref o_heardOf, .ref o_heardBars, .ref o_heardPlays, .int o_hushWho, .int o_hushSum, .long o_seed, .ref o_isKept, .ref o_kept])), (o_now, .inl (cI, 32, .inl o_now_v)), (o_row, .inl (cI, 224, .inl (upd v2 (Int32.toNatClampNeg ((16 * o_next) + nI k2)) y1)))] H := hP
    have hD : va_D A [(o_h, .inr (5, [.int o_players, .int o_bars, .ref o_price, .ref o_breath, .ref o_kind, .ref o_looks, .ref o_noise, .ref o_repeat, .ref o_now, .ref o_readPlayer, .ref o_readBar, .int o_readPlayers, .int o_readBars, .ref o_text, .int o_length, .int o_at, .int o_faultAt, .int o_acts, .int o_next, .ref o_row, .int o_heard, .ref o_heardOf, .ref o_heardBars, .ref o_heardPlays, .int o_hushWho, .int o_hushSum, .long o_seed, .ref o_isKept, .ref o_kept])), (o_now, .inl (cI, 32, .inl o_now_v)), (o_row, .inl (cI, 224, .inl (upd v2 (Int32.toNatClampNeg ((16 * o_next) + nI k2)) y1)))] := hD
    refine lv_iinc (v := nI (k2 + 1)) (lv' := [(1, .int (nI (k2 + 1))), (0, .ref o_h)]) hx hb dX5_keepAct_28 hl (k := 1) rfl (nI_1 k2) (by decide) rfl (fun ls hl => ?_)
    refine lv_goto (tgt := 2) hx hb dX5_keepAct_31 (by decide) ?_
    subst hw
    exact ih _ _ _ hP hD hS (lv_sub hl [1, 0] rfl)

set_option maxHeartbeats 4000000 in
set_option maxRecDepth 100000 in
theorem c_X5_bar (l : Launch) (dC : Nat → ClassId) (dI : Nat → Nat → Nat) (cI cZ cM : ClassId) (sz : Nat) (o_h : Nat) (o_players : Int32) (o_bars : Int32) (o_price : Nat) (o_breath : Nat) (o_kind : Nat) (o_looks : Nat) (o_noise : Nat) (o_repeat : Nat) (o_now : Nat) (o_readPlayer : Nat) (o_readBar : Nat) (o_readPlayers : Int32) (o_readBars : Int32) (o_text : Nat) (o_length : Int32) (o_at : Int32) (o_faultAt : Int32) (o_acts : Int32) (o_next : Int32) (o_row : Nat) (o_heard : Int32) (o_heardOf : Nat) (o_heardBars : Nat) (o_heardPlays : Nat) (o_hushWho : Int32) (o_hushSum : Int32) (o_seed : Int64) (o_isKept : Nat) (o_kept : Nat) (o_now_v : Nat → Int32) (o_row_v : Nat → Int32) (o_noise_v : Nat → Int32) (o_kind_v : Nat → Int32) (o_looks_v : Nat → Int32) (o_repeat_v : Nat → Int32) (np : Nat) (enp : o_players = nI np) (hnp : np ≤ 6) (nb : Nat) (enb : o_bars = nI nb) (hnb : nb ≤ 8) (nx : Nat) (enx : o_next = nI nx) (hnx : nx < 14) (hB : mB o_now_v) (u : Int32 × Int32 × Int32 × (Nat → Int32) × (Nat → Int32)) (hu : u = f_X5_bar o_players o_bars o_acts o_next o_now_v o_row_v o_noise_v o_kind_v o_looks_v o_repeat_v) : Met l yX5_bar wsX5_bar { frames := 5, cells := 0, slots := 0, locals := 117 } (hgPc [.ref o_h] (dC, dI) cI cZ cM [(o_h, .inr (5, [.int o_players, .int o_bars, .ref o_price, .ref o_breath, .ref o_kind, .ref o_looks, .ref o_noise, .ref o_repeat, .ref o_now, .ref o_readPlayer, .ref o_readBar, .int o_readPlayers, .int o_readBars, .ref o_text, .int o_length, .int o_at, .int o_faultAt, .int o_acts, .int o_next, .ref o_row, .int o_heard, .ref o_heardOf, .ref o_heardBars, .ref o_heardPlays, .int o_hushWho, .int o_hushSum, .long o_seed, .ref o_isKept, .ref o_kept])), (o_now, .inl (cI, 32, .inl o_now_v)), (o_row, .inl (cI, 224, .inl o_row_v)), (o_noise, .inl (cI, 8, .inl o_noise_v)), (o_kind, .inl (cI, 6, .inl o_kind_v)), (o_looks, .inl (cI, 6, .inl o_looks_v)), (o_repeat, .inl (cI, 8, .inl o_repeat_v))] sz) (hgQi (dC, dI) u.1 [(o_h, .inr (5, [.int o_players, .int o_bars, .ref o_price, .ref o_breath, .ref o_kind, .ref o_looks, .ref o_noise, .ref o_repeat, .ref o_now, .ref o_readPlayer, .ref o_readBar, .int o_readPlayers, .int o_readBars, .ref o_text, .int o_length, .int o_at, .int o_faultAt, .int u.2.1, .int u.2.2.1, .ref o_row, .int o_heard, .ref o_heardOf, .ref o_heardBars, .ref o_heardPlays, .int o_hushWho, .int o_hushSum, .long o_seed, .ref o_isKept, .ref o_kept])), (o_now, .inl (cI, 32, .inl u.2.2.2.1)), (o_row, .inl (cI, 224, .inl u.2.2.2.2)), (o_noise, .inl (cI, 8, .inl o_noise_v)), (o_kind, .inl (cI, 6, .inl o_kind_v)), (o_looks, .inl (cI, 6, .inl o_looks_v)), (o_repeat, .inl (cI, 8, .inl o_repeat_v))] (va_A [(o_h, .inr (5, [.int o_players, .int o_bars, .ref o_price, .ref o_breath, .ref o_kind, .ref o_looks, .ref o_noise, .ref o_repeat, .ref o_now, .ref o_readPlayer, .ref o_readBar, .int o_readPlayers, .int o_readBars, .ref o_text, .int o_length, .int o_at, .int o_faultAt, .int o_acts, .int o_next, .ref o_row, .int o_heard, .ref o_heardOf, .ref o_heardBars, .ref o_heardPlays, .int o_hushWho, .int o_hushSum, .long o_seed, .ref o_isKept, .ref o_kept])), (o_now, .inl (cI, 32, .inl o_now_v)), (o_row, .inl (cI, 224, .inl o_row_v)), (o_noise, .inl (cI, 8, .inl o_noise_v)), (o_kind, .inl (cI, 6, .inl o_kind_v)), (o_looks, .inl (cI, 6, .inl o_looks_v)), (o_repeat, .inl (cI, 8, .inl o_repeat_v))] sz)) 0 0 (va_A [(o_h, .inr (5, [.int o_players, .int o_bars, .ref o_price, .ref o_breath, .ref o_kind, .ref o_looks, .ref o_noise, .ref o_repeat, .ref o_now, .ref o_readPlayer, .ref o_readBar, .int o_readPlayers, .int o_readBars, .ref o_text, .int o_length, .int o_at, .int o_faultAt, .int o_acts, .int o_next, .ref o_row, .int o_heard, .ref o_heardOf, .ref o_heardBars, .ref o_heardPlays, .int o_hushWho, .int o_hushSum, .long o_seed, .ref o_isKept, .ref o_kept])), (o_now, .inl (cI, 32, .inl o_now_v)), (o_row, .inl (cI, 224, .inl o_row_v)), (o_noise, .inl (cI, 8, .inl o_noise_v)), (o_kind, .inl (cI, 6, .inl o_kind_v)), (o_looks, .inl (cI, 6, .inl o_looks_v)), (o_repeat, .inl (cI, 8, .inl o_repeat_v))] sz) := by
  refine hg_ofW (cc := cX5_bar) (maxL := 1) (ret := (some .int)) (own := RX5) (fun A => hgQi (dC, dI) u.1 [(o_h, .inr (5, [.int o_players, .int o_bars, .ref o_price, .ref o_breath, .ref o_kind, .ref o_looks, .ref o_noise, .ref o_repeat, .ref o_now, .ref o_readPlayer, .ref o_readBar, .int o_readPlayers, .int o_readBars, .ref o_text, .int o_length, .int o_at, .int o_faultAt, .int u.2.1, .int u.2.2.1, .ref o_row, .int o_heard, .ref o_heardOf, .ref o_heardBars, .ref o_heardPlays, .int o_hushWho, .int o_hushSum, .long o_seed, .ref o_isKept, .ref o_kept])), (o_now, .inl (cI, 32, .inl u.2.2.2.1)), (o_row, .inl (cI, 224, .inl u.2.2.2.2)), (o_noise, .inl (cI, 8, .inl o_noise_v)), (o_kind, .inl (cI, 6, .inl o_kind_v)), (o_looks, .inl (cI, 6, .inl o_looks_v)), (o_repeat, .inl (cI, 8, .inl o_repeat_v))] A) rfl (by decide) rfl (Nat.le_of_ble_eq_true rfl) ?_
  intro p e s m below meth c ls A hsz hx hb hr hml hown hts hlk hnm hK hN hA hP hD hS hl
  subst hsz
  have hl : lv_has ls 1 [(0, .ref o_h)] := hl
  unfold f_X5_bar at hu
  refine lv_aload_n hx hb dX5_bar_0 rfl (lv_at hl 0 rfl) ?_
  refine lv_iconst (v := 0) hx hb dX5_bar_1 (by decide) ?_
  obtain ⟨r1, er1, hu⟩ := lxb_o hu
  refine hg_ci (va_runV (As := [.int 0]) (rest := []) ⟨hx, hb, hml, hown, hts⟩ (c_X5_isSilent l dC dI cI cZ cM _ o_h 0 o_players o_bars o_price o_breath o_kind o_looks o_noise o_repeat o_now o_readPlayer o_readBar o_readPlayers o_readBars o_text o_length o_at o_faultAt o_acts o_next o_row o_heard o_heardOf o_heardBars o_heardPlays o_hushWho o_hushSum o_seed o_isKept o_kept o_now_v np enp (by omega) nb enb (by omega) 0 (show (0 : Int32) = nI 0 from rfl) (by omega) r1 er1) (cwV 1 hts gX5_bar_X5_isSilent rfl rfl rfl (by decide +kernel) ⟨Nat.le_of_ble_eq_true rfl, Nat.le_of_ble_eq_true rfl⟩) (hgPreV (C := RX5) (T := TX5) (N := 29) (ci := 5) (q0 := 0) hP hD hK hN [0, 1] rfl rfl rfl rfl) rfl rfl hl.1 rfl (lv_room (Nat.le_of_ble_eq_true rfl)) dX5_bar_2 ⟨Nat.zero_le _, Nat.zero_le _⟩) hP hD hS hA (wr := [(o_row, .inl (cI, 224, .inl o_row_v)), (o_noise, .inl (cI, 8, .inl o_noise_v)), (o_kind, .inl (cI, 6, .inl o_kind_v)), (o_looks, .inl (cI, 6, .inl o_looks_v)), (o_repeat, .inl (cI, 8, .inl o_repeat_v))]) (wf := [(o_h, .inr (5, [.int o_players, .int o_bars, .ref o_price, .ref o_breath, .ref o_kind, .ref o_looks, .ref o_noise, .ref o_repeat, .ref o_now, .ref o_readPlayer, .ref o_readBar, .int o_readPlayers, .int o_readBars, .ref o_text, .int o_length, .int o_at, .int o_faultAt, .int o_acts, .int o_next, .ref o_row, .int o_heard, .ref o_heardOf, .ref o_heardBars, .ref o_heardPlays, .int o_hushWho, .int o_hushSum, .long o_seed, .ref o_isKept, .ref o_kept])), (o_now, .inl (cI, 32, .inl o_now_v)), (o_row, .inl (cI, 224, .inl o_row_v)), (o_noise, .inl (cI, 8, .inl o_noise_v)), (o_kind, .inl (cI, 6, .inl o_kind_v)), (o_looks, .inl (cI, 6, .inl o_looks_v)), (o_repeat, .inl (cI, 8, .inl o_repeat_v))]) [0, 1] [2, 3, 4, 5, 6] [5, 6, 0, 1, 2, 3, 4] rfl rfl rfl (by decide) rfl rfl (fun H locs hP hD hS => ?_)
  refine lv_if_eq (tgt := 11) hx hb dX5_bar_5 (by decide) (fun c_5 => ?_) (fun c_5 => ?_)
  · have hu := hu.trans (if_pos c_5)
    refine lv_aload_n hx hb dX5_bar_11 rfl (lv_at hl 0 rfl) ?_
    obtain ⟨r2, er2, hu⟩ := lxb_o hu
    refine hg_cv (va_runV (As := []) (rest := []) ⟨hx, hb, hml, hown, hts⟩ (c_X5_keepAct l dC dI cI cZ cM _ o_h o_players o_bars o_price o_breath o_kind o_looks o_noise o_repeat o_now o_readPlayer o_readBar o_readPlayers o_readBars o_text o_length o_at o_faultAt o_acts o_next o_row o_heard o_heardOf o_heardBars o_heardPlays o_hushWho o_hushSum o_seed o_isKept o_kept o_now_v o_row_v np enp (by omega) nb enb (by omega) nx enx (by omega) r2 er2) (cwV 0 hts gX5_bar_X5_keepAct rfl rfl rfl (by decide +kernel) ⟨Nat.le_of_ble_eq_true rfl, Nat.le_of_ble_eq_true rfl⟩) (hgPreV (C := RX5) (T := TX5) (N := 29) (ci := 5) (q0 := 0) hP hD hK hN [0, 1, 2] rfl rfl rfl rfl) rfl rfl hl.1 rfl (lv_room (Nat.le_of_ble_eq_true rfl)) dX5_bar_12 ⟨Nat.zero_le _, Nat.zero_le _⟩) hP hD hS hA (wr := [(o_noise, .inl (cI, 8, .inl o_noise_v)), (o_kind, .inl (cI, 6, .inl o_kind_v)), (o_looks, .inl (cI, 6, .inl o_looks_v)), (o_repeat, .inl (cI, 8, .inl o_repeat_v))]) (wf := [(o_h, .inr (5, [.int o_players, .int o_bars, .ref o_price, .ref o_breath, .ref o_kind, .ref o_looks, .ref o_noise, .ref o_repeat, .ref o_now, .ref o_readPlayer, .ref o_readBar, .int o_readPlayers, .int o_readBars, .ref o_text, .int o_length, .int o_at, .int o_faultAt, .int r2.1, .int r2.2.1, .ref o_row, .int o_heard, .ref o_heardOf, .ref o_heardBars, .ref o_heardPlays, .int o_hushWho, .int o_hushSum, .long o_seed, .ref o_isKept, .ref o_kept])), (o_now, .inl (cI, 32, .inl o_now_v)), (o_row, .inl (cI, 224, .inl r2.2.2)), (o_noise, .inl (cI, 8, .inl o_noise_v)), (o_kind, .inl (cI, 6, .inl o_kind_v)), (o_looks, .inl (cI, 6, .inl o_looks_v)), (o_repeat, .inl (cI, 8, .inl o_repeat_v))]) [0, 1, 2] [3, 4, 5, 6] [4, 5, 6, 0, 1, 2, 3] rfl rfl rfl (by decide) rfl rfl (fun H locs hP hD hS => ?_)
    refine lv_aload_n hx hb dX5_bar_15 rfl (lv_at hl 0 rfl) ?_
    refine lv_iconst (v := 0) hx hb dX5_bar_16 (by decide) ?_
    obtain ⟨r3, er3, hu⟩ := lxb_o hu
    refine hg_ciE (va_runV (As := [.int 0]) (rest := []) ⟨hx, hb, hml, hown, hts⟩ (c_X5_passOn l dC dI cI cZ cM _ o_h 0 o_players o_bars o_price o_breath o_kind o_looks o_noise o_repeat o_now o_readPlayer o_readBar o_readPlayers o_readBars o_text o_length o_at o_faultAt r2.1 r2.2.1 o_row o_heard o_heardOf o_heardBars o_heardPlays o_hushWho o_hushSum o_seed o_isKept o_kept o_now_v o_noise_v o_kind_v o_looks_v o_repeat_v np enp (by omega) nb enb (by omega) 0 (show (0 : Int32) = nI 0 from rfl) (by omega) hB r3 er3) (cwV 1 hts gX5_bar_X5_passOn rfl rfl rfl (by decide +kernel) ⟨Nat.le_of_ble_eq_true rfl, Nat.le_of_ble_eq_true rfl⟩) (hgPreV (C := RX5) (T := TX5) (N := 29) (ci := 5) (q0 := 0) hP hD hK hN [0, 1, 3, 4, 5, 6] rfl rfl rfl rfl) rfl rfl hl.1 rfl (lv_room (Nat.le_of_ble_eq_true rfl)) dX5_bar_17 ⟨Nat.zero_le _, Nat.zero_le _⟩) hP hD hS hA (wr := [(o_row, .inl (cI, 224, .inl r2.2.2))]) (wf := [(o_h, .inr (5, [.int o_players, .int o_bars, .ref o_price, .ref o_breath, .ref o_kind, .ref o_looks, .ref o_noise, .ref o_repeat, .ref o_now, .ref o_readPlayer, .ref o_readBar, .int o_readPlayers, .int o_readBars, .ref o_text, .int o_length, .int o_at, .int o_faultAt, .int r2.1, .int r2.2.1, .ref o_row, .int o_heard, .ref o_heardOf, .ref o_heardBars, .ref o_heardPlays, .int o_hushWho, .int o_hushSum, .long o_seed, .ref o_isKept, .ref o_kept])), (o_now, .inl (cI, 32, .inl r3.2)), (o_row, .inl (cI, 224, .inl r2.2.2)), (o_noise, .inl (cI, 8, .inl o_noise_v)), (o_kind, .inl (cI, 6, .inl o_kind_v)), (o_looks, .inl (cI, 6, .inl o_looks_v)), (o_repeat, .inl (cI, 8, .inl o_repeat_v))]) [0, 1, 3, 4, 5, 6] [2] [1, 2, 0, 3, 4, 5, 6] rfl rfl rfl (by decide) rfl rfl (fun hB4 H locs hP hD hS => ?_)
    refine lv_pop hx hb dX5_bar_20 rfl ?_
    refine lv_aload_n hx hb dX5_bar_21 rfl (lv_at hl 0 rfl) ?_
    refine lv_iconst (v := 0) hx hb dX5_bar_22 (by decide) ?_
    obtain ⟨r5, er5, hu⟩ := lxb_o hu
    refine hg_ci (va_runV (As := [.int 0]) (rest := []) ⟨hx, hb, hml, hown, hts⟩ (c_X5_howMany l dC dI cI cZ cM _ o_h 0 o_players o_bars o_price o_breath o_kind o_looks o_noise o_repeat o_now o_readPlayer o_readBar o_readPlayers o_readBars o_text o_length o_at o_faultAt r2.1 r2.2.1 o_row o_heard o_heardOf o_heardBars o_heardPlays o_hushWho o_hushSum o_seed o_isKept o_kept r3.2 np enp (by omega) nb enb (by omega) 0 (show (0 : Int32) = nI 0 from rfl) (by omega) r5 er5) (cwV 1 hts gX5_bar_X5_howMany rfl rfl rfl (by decide +kernel) ⟨Nat.le_of_ble_eq_true rfl, Nat.le_of_ble_eq_true rfl⟩) (hgPreV (C := RX5) (T := TX5) (N := 29) (ci := 5) (q0 := 0) hP hD hK hN [0, 1] rfl rfl rfl rfl) rfl rfl hl.1 rfl (lv_room (Nat.le_of_ble_eq_true rfl)) dX5_bar_23 ⟨Nat.zero_le _, Nat.zero_le _⟩) hP hD hS hA (wr := [(o_row, .inl (cI, 224, .inl r2.2.2)), (o_noise, .inl (cI, 8, .inl o_noise_v)), (o_kind, .inl (cI, 6, .inl o_kind_v)), (o_looks, .inl (cI, 6, .inl o_looks_v)), (o_repeat, .inl (cI, 8, .inl o_repeat_v))]) (wf := [(o_h, .inr (5, [.int o_players, .int o_bars, .ref o_price, .ref o_breath, .ref o_kind, .ref o_looks, .ref o_noise, .ref o_repeat, .ref o_now, .ref o_readPlayer, .ref o_readBar, .int o_readPlayers, .int o_readBars, .ref o_text, .int o_length, .int o_at, .int o_faultAt, .int r2.1, .int r2.2.1, .ref o_row, .int o_heard, .ref o_heardOf, .ref o_heardBars, .ref o_heardPlays, .int o_hushWho, .int o_hushSum, .long o_seed, .ref o_isKept, .ref o_kept])), (o_now, .inl (cI, 32, .inl r3.2)), (o_row, .inl (cI, 224, .inl r2.2.2)), (o_noise, .inl (cI, 8, .inl o_noise_v)), (o_kind, .inl (cI, 6, .inl o_kind_v)), (o_looks, .inl (cI, 6, .inl o_looks_v)), (o_repeat, .inl (cI, 8, .inl o_repeat_v))]) [0, 1] [2, 3, 4, 5, 6] [5, 6, 0, 1, 2, 3, 4] rfl rfl rfl (by decide) rfl rfl (fun H locs hP hD hS => ?_)
    subst hu
    exact hg_ri hx hb hr hlk rfl hP hD hS dX5_bar_26
  · have hu := hu.trans (if_neg c_5)
    refine lv_bipush (v := (-3)) hx hb dX5_bar_8 (by decide) ?_
    subst hu
    exact hg_ri hx hb hr hlk rfl hP hD hS dX5_bar_10

set_option maxHeartbeats 4000000 in
set_option maxRecDepth 100000 in
theorem c_X5_giveOn (l : Launch) (dC : Nat → ClassId) (dI : Nat → Nat → Nat) (cI cZ cM : ClassId) (sz : Nat) (o_h : Nat) (x0 : Int32) (x1 : Int32) (o_players : Int32) (o_bars : Int32) (o_price : Nat) (o_breath : Nat) (o_kind : Nat) (o_looks : Nat) (o_noise : Nat) (o_repeat : Nat) (o_now : Nat) (o_readPlayer : Nat) (o_readBar : Nat) (o_readPlayers : Int32) (o_readBars : Int32) (o_text : Nat) (o_length : Int32) (o_at : Int32) (o_faultAt : Int32) (o_acts : Int32) (o_next : Int32) (o_row : Nat) (o_heard : Int32) (o_heardOf : Nat) (o_heardBars : Nat) (o_heardPlays : Nat) (o_hushWho : Int32) (o_hushSum : Int32) (o_seed : Int64) (o_isKept : Nat) (o_kept : Nat) (o_now_v : Nat → Int32) (np : Nat) (enp : o_players = nI np) (hnp : np ≤ 6) (nb : Nat) (enb : o_bars = nI nb) (hnb : nb ≤ 8) (lv : Nat) (elv : x0 = nI lv) (hlv : lv < 2) (hB : mB o_now_v) (u : (Nat → Int32)) (hu : u = f_X5_giveOn x0 x1 o_now_v) : Met l yX5_giveOn wsX5_giveOn { frames := 0, cells := 0, slots := 0, locals := 0 } (hgPc [.ref o_h, .int x0, .int x1] (dC, dI) cI cZ cM [(o_h, .inr (5, [.int o_players, .int o_bars, .ref o_price, .ref o_breath, .ref o_kind, .ref o_looks, .ref o_noise, .ref o_repeat, .ref o_now, .ref o_readPlayer, .ref o_readBar, .int o_readPlayers, .int o_readBars, .ref o_text, .int o_length, .int o_at, .int o_faultAt, .int o_acts, .int o_next, .ref o_row, .int o_heard, .ref o_heardOf, .ref o_heardBars, .ref o_heardPlays, .int o_hushWho, .int o_hushSum, .long o_seed, .ref o_isKept, .ref o_kept])), (o_now, .inl (cI, 32, .inl o_now_v))] sz) (hgQvE (dC, dI) [(o_h, .inr (5, [.int o_players, .int o_bars, .ref o_price, .ref o_breath, .ref o_kind, .ref o_looks, .ref o_noise, .ref o_repeat, .ref o_now, .ref o_readPlayer, .ref o_readBar, .int o_readPlayers, .int o_readBars, .ref o_text, .int o_length, .int o_at, .int o_faultAt, .int o_acts, .int o_next, .ref o_row, .int o_heard, .ref o_heardOf, .ref o_heardBars, .ref o_heardPlays, .int o_hushWho, .int o_hushSum, .long o_seed, .ref o_isKept, .ref o_kept])), (o_now, .inl (cI, 32, .inl u))] (mB u) (va_A [(o_h, .inr (5, [.int o_players, .int o_bars, .ref o_price, .ref o_breath, .ref o_kind, .ref o_looks, .ref o_noise, .ref o_repeat, .ref o_now, .ref o_readPlayer, .ref o_readBar, .int o_readPlayers, .int o_readBars, .ref o_text, .int o_length, .int o_at, .int o_faultAt, .int o_acts, .int o_next, .ref o_row, .int o_heard, .ref o_heardOf, .ref o_heardBars, .ref o_heardPlays, .int o_hushWho, .int o_hushSum, .long o_seed, .ref o_isKept, .ref o_kept])), (o_now, .inl (cI, 32, .inl o_now_v))] sz)) 0 0 (va_A [(o_h, .inr (5, [.int o_players, .int o_bars, .ref o_price, .ref o_breath, .ref o_kind, .ref o_looks, .ref o_noise, .ref o_repeat, .ref o_now, .ref o_readPlayer, .ref o_readBar, .int o_readPlayers, .int o_readBars, .ref o_text, .int o_length, .int o_at, .int o_faultAt, .int o_acts, .int o_next, .ref o_row, .int o_heard, .ref o_heardOf, .ref o_heardBars, .ref o_heardPlays, .int o_hushWho, .int o_hushSum, .long o_seed, .ref o_isKept, .ref o_kept])), (o_now, .inl (cI, 32, .inl o_now_v))] sz) := by
  refine hg_ofW (cc := cX5_giveOn) (maxL := 4) (ret := none) (own := RX5) (fun A => hgQvE (dC, dI) [(o_h, .inr (5, [.int o_players, .int o_bars, .ref o_price, .ref o_breath, .ref o_kind, .ref o_looks, .ref o_noise, .ref o_repeat, .ref o_now, .ref o_readPlayer, .ref o_readBar, .int o_readPlayers, .int o_readBars, .ref o_text, .int o_length, .int o_at, .int o_faultAt, .int o_acts, .int o_next, .ref o_row, .int o_heard, .ref o_heardOf, .ref o_heardBars, .ref o_heardPlays, .int o_hushWho, .int o_hushSum, .long o_seed, .ref o_isKept, .ref o_kept])), (o_now, .inl (cI, 32, .inl u))] (mB u) A) rfl (by decide) rfl (Nat.le_of_ble_eq_true rfl) ?_
  intro p e s m below meth c ls A hsz hx hb hr hml hown hts hlk hnm hK hN hA hP hD hS hl
  subst hsz
  have w1 := hts (.fieldLink RX5 28 "HatGoesRoundModel" "now" "[I") (List.mem_of_getElem? (i := 1) rfl)
  have hinX5 : ∀ w ∈ u_ws RX5 TX5 29, w ∈ wsX5_giveOn := fun _ h => List.mem_cons_of_mem _ (List.mem_append_right _ h)
  have hl : lv_has ls 4 [(0, .ref o_h), (1, .int x0), (2, .int x1)] := hl
  unfold f_X5_giveOn at hu
  refine lv_bipush (v := 16) hx hb dX5_giveOn_0 (by decide) ?_
  refine lv_iload_n hx hb dX5_giveOn_2 rfl (lv_at hl 1 rfl) ?_
  refine lv_imul hx hb dX5_giveOn_3 ?_
  refine lv_bipush (v := 14) hx hb dX5_giveOn_4 (by decide) ?_
  refine lv_iadd hx hb dX5_giveOn_6 ?_
  refine lv_istore_n (lv' := [(3, .int ((16 * x0) + 14)), (0, .ref o_h), (1, .int x0), (2, .int x1)]) hx hb dX5_giveOn_7 rfl hl (by decide) rfl (fun ls hl => ?_)
  refine lv_aload_n hx hb dX5_giveOn_8 rfl (lv_at hl 1 rfl) ?_
  refine va_get (D := (dC, dI)) (ci := 5) (v := .ref o_now) (C := RX5) (T := TX5) (N := 29) hx hb hts hinX5 hown hK hP 0 rfl rfl 8 (by decide) w1 (fun _ h9 => h9) rfl dX5_giveOn_9 ?_
  refine lv_iload_n hx hb dX5_giveOn_12 rfl (lv_at hl 0 rfl) ?_
  refine lv_aload_n hx hb dX5_giveOn_13 rfl (lv_at hl 1 rfl) ?_
  refine va_get (D := (dC, dI)) (ci := 5) (v := .ref o_now) (C := RX5) (T := TX5) (N := 29) hx hb hts hinX5 hown hK hP 0 rfl rfl 8 (by decide) w1 (fun _ h9 => h9) rfl dX5_giveOn_14 ?_
  refine lv_iload_n hx hb dX5_giveOn_17 rfl (lv_at hl 0 rfl) ?_
  refine va_iald hx hb hK hP 1 0 rfl rfl (n := 32) (f := o_now_v) (hg_in (n := ((16 * lv) + 14)) (N := 32) (nx_add (nx_mul (show (16 : Int32) = nI 16 from rfl) elv) (show (14 : Int32) = nI 14 from rfl)) (by omega) (by decide)) dX5_giveOn_18 ?_
  refine lv_iload_n hx hb dX5_giveOn_19 rfl (lv_at hl 3 rfl) ?_
  refine lv_iadd hx hb dX5_giveOn_20 ?_
  refine lv_bipush (v := 99) hx hb dX5_giveOn_21 (by decide) ?_
  obtain ⟨z1, ez1, hu⟩ := lxb_o hu
  refine hg_cut (D := (dC, dI)) (A0 := A) (H0 := s.heap) (ws := [(o_h, .inr (5, [.int o_players, .int o_bars, .ref o_price, .ref o_breath, .ref o_kind, .ref o_looks, .ref o_noise, .ref o_repeat, .ref o_now, .ref o_readPlayer, .ref o_readBar, .int o_readPlayers, .int o_readBars, .ref o_text, .int o_length, .int o_at, .int o_faultAt, .int o_acts, .int o_next, .ref o_row, .int o_heard, .ref o_heardOf, .ref o_heardBars, .ref o_heardPlays, .int o_hushWho, .int o_hushSum, .long o_seed, .ref o_isKept, .ref o_kept])), (o_now, .inl (cI, 32, .inl o_now_v))]) (g := F0 m 39 ls [.int z1, .int ((16 * x0) + 14), .ref o_now]) ?_ (fun hJ => ?_)
  · intro H locs hP hD hS
    refine va_iast hx hb hK hP hD hS 1 0 rfl rfl (n := 32) (f := o_now_v) (hg_in (n := ((16 * lv) + 14)) (N := 32) (nx_add (nx_mul (show (16 : Int32) = nI 16 from rfl) elv) (show (14 : Int32) = nI 14 from rfl)) (by omega) (by decide)) dX5_giveOn_39 (fun H locs hP hD hS => ?_)
    have hP : va_P (dC, dI) vwCl [(o_h, .inr (5, [.int o_players, .int o_bars, .ref o_price, .ref o_breath, .ref o_kind, .ref o_looks, .ref o_noise, .ref o_repeat, .ref o_now, .ref o_readPlayer, .ref o_readBar, .int o_readPlayers, .int o_readBars, .ref o_text, .int o_length, .int o_at, .int o_faultAt, .int o_acts, .int o_next, .ref o_row, .int o_heard, .ref o_heardOf, .ref o_heardBars, .ref o_heardPlays, .int o_hushWho, .int o_hushSum, .long o_seed, .ref o_isKept, .ref o_kept])), (o_now, .inl (cI, 32, .inl (upd o_now_v (Int32.toNatClampNeg ((16 * x0) + 14)) z1)))] H := hP
    have hD : va_D A [(o_h, .inr (5, [.int o_players, .int o_bars, .ref o_price, .ref o_breath, .ref o_kind, .ref o_looks, .ref o_noise, .ref o_repeat, .ref o_now, .ref o_readPlayer, .ref o_readBar, .int o_readPlayers, .int o_readBars, .ref o_text, .int o_length, .int o_at, .int o_faultAt, .int o_acts, .int o_next, .ref o_row, .int o_heard, .ref o_heardOf, .ref o_heardBars, .ref o_heardPlays, .int o_hushWho, .int o_hushSum, .long o_seed, .ref o_isKept, .ref o_kept])), (o_now, .inl (cI, 32, .inl (upd o_now_v (Int32.toNatClampNeg ((16 * x0) + 14)) z1)))] := hD
    have hB2 : mB (upd o_now_v (Int32.toNatClampNeg ((16 * x0) + 14)) z1) := mB_upd (n := ((16 * lv) + 14)) hB (nx_add (nx_mul (show (16 : Int32) = nI 16 from rfl) elv) (show (14 : Int32) = nI 14 from rfl)) (by omega) (fun q => absurd q (by omega))
    subst hu
    exact hg_rvE hx hb hr hlk hB2 hP hD hS dX5_giveOn_40
  · refine lv_icmp_le (tgt := 31) hx hb dX5_giveOn_23 (by decide) (fun c_23 => ?_) (fun c_23 => ?_)
    · have ez1 := ez1.trans (if_pos c_23)
      refine lv_aload_n hx hb dX5_giveOn_31 rfl (lv_at hl 1 rfl) ?_
      refine va_get (D := (dC, dI)) (ci := 5) (v := .ref o_now) (C := RX5) (T := TX5) (N := 29) hx hb hts hinX5 hown hK hP 0 rfl rfl 8 (by decide) w1 (fun _ h9 => h9) rfl dX5_giveOn_32 ?_
      refine lv_iload_n hx hb dX5_giveOn_35 rfl (lv_at hl 0 rfl) ?_
      refine va_iald hx hb hK hP 1 0 rfl rfl (n := 32) (f := o_now_v) (hg_in (n := ((16 * lv) + 14)) (N := 32) (nx_add (nx_mul (show (16 : Int32) = nI 16 from rfl) elv) (show (14 : Int32) = nI 14 from rfl)) (by omega) (by decide)) dX5_giveOn_36 ?_
      refine lv_iload_n hx hb dX5_giveOn_37 rfl (lv_at hl 3 rfl) ?_
      refine lv_iadd hx hb dX5_giveOn_38 ?_
      subst ez1
      exact hJ _ _ hP hD hS
    · have ez1 := ez1.trans (if_neg c_23)
      refine lv_bipush (v := 99) hx hb dX5_giveOn_26 (by decide) ?_
      refine lv_goto (tgt := 39) hx hb dX5_giveOn_28 (by decide) ?_
      subst ez1
      exact hJ _ _ hP hD hS

set_option maxHeartbeats 4000000 in
set_option maxRecDepth 100000 in
theorem c_X5_give (l : Launch) (dC : Nat → ClassId) (dI : Nat → Nat → Nat) (cI cZ cM : ClassId) (sz : Nat) (o_h : Nat) (x0 : Int32) (o_players : Int32) (o_bars : Int32) (o_price : Nat) (o_breath : Nat) (o_kind : Nat) (o_looks : Nat) (o_noise : Nat) (o_repeat : Nat) (o_now : Nat) (o_readPlayer : Nat) (o_readBar : Nat) (o_readPlayers : Int32) (o_readBars : Int32) (o_text : Nat) (o_length : Int32) (o_at : Int32) (o_faultAt : Int32) (o_acts : Int32) (o_next : Int32) (o_row : Nat) (o_heard : Int32) (o_heardOf : Nat) (o_heardBars : Nat) (o_heardPlays : Nat) (o_hushWho : Int32) (o_hushSum : Int32) (o_seed : Int64) (o_isKept : Nat) (o_kept : Nat) (o_now_v : Nat → Int32) (o_row_v : Nat → Int32) (np : Nat) (enp : o_players = nI np) (hnp : np ≤ 6) (nb : Nat) (enb : o_bars = nI nb) (hnb : nb ≤ 8) (nx : Nat) (enx : o_next = nI nx) (hnx : nx < 14) (hB : mB o_now_v) (u : Int32 × Int32 × Int32 × (Nat → Int32) × (Nat → Int32)) (hu : u = f_X5_give x0 o_acts o_next o_now_v o_row_v) : Met l yX5_give wsX5_give { frames := 1, cells := 0, slots := 0, locals := 25 } (hgPc [.ref o_h, .int x0] (dC, dI) cI cZ cM [(o_h, .inr (5, [.int o_players, .int o_bars, .ref o_price, .ref o_breath, .ref o_kind, .ref o_looks, .ref o_noise, .ref o_repeat, .ref o_now, .ref o_readPlayer, .ref o_readBar, .int o_readPlayers, .int o_readBars, .ref o_text, .int o_length, .int o_at, .int o_faultAt, .int o_acts, .int o_next, .ref o_row, .int o_heard, .ref o_heardOf, .ref o_heardBars, .ref o_heardPlays, .int o_hushWho, .int o_hushSum, .long o_seed, .ref o_isKept, .ref o_kept])), (o_now, .inl (cI, 32, .inl o_now_v)), (o_row, .inl (cI, 224, .inl o_row_v))] sz) (hgQi (dC, dI) u.1 [(o_h, .inr (5, [.int o_players, .int o_bars, .ref o_price, .ref o_breath, .ref o_kind, .ref o_looks, .ref o_noise, .ref o_repeat, .ref o_now, .ref o_readPlayer, .ref o_readBar, .int o_readPlayers, .int o_readBars, .ref o_text, .int o_length, .int o_at, .int o_faultAt, .int u.2.1, .int u.2.2.1, .ref o_row, .int o_heard, .ref o_heardOf, .ref o_heardBars, .ref o_heardPlays, .int o_hushWho, .int o_hushSum, .long o_seed, .ref o_isKept, .ref o_kept])), (o_now, .inl (cI, 32, .inl u.2.2.2.1)), (o_row, .inl (cI, 224, .inl u.2.2.2.2))] (va_A [(o_h, .inr (5, [.int o_players, .int o_bars, .ref o_price, .ref o_breath, .ref o_kind, .ref o_looks, .ref o_noise, .ref o_repeat, .ref o_now, .ref o_readPlayer, .ref o_readBar, .int o_readPlayers, .int o_readBars, .ref o_text, .int o_length, .int o_at, .int o_faultAt, .int o_acts, .int o_next, .ref o_row, .int o_heard, .ref o_heardOf, .ref o_heardBars, .ref o_heardPlays, .int o_hushWho, .int o_hushSum, .long o_seed, .ref o_isKept, .ref o_kept])), (o_now, .inl (cI, 32, .inl o_now_v)), (o_row, .inl (cI, 224, .inl o_row_v))] sz)) 0 0 (va_A [(o_h, .inr (5, [.int o_players, .int o_bars, .ref o_price, .ref o_breath, .ref o_kind, .ref o_looks, .ref o_noise, .ref o_repeat, .ref o_now, .ref o_readPlayer, .ref o_readBar, .int o_readPlayers, .int o_readBars, .ref o_text, .int o_length, .int o_at, .int o_faultAt, .int o_acts, .int o_next, .ref o_row, .int o_heard, .ref o_heardOf, .ref o_heardBars, .ref o_heardPlays, .int o_hushWho, .int o_hushSum, .long o_seed, .ref o_isKept, .ref o_kept])), (o_now, .inl (cI, 32, .inl o_now_v)), (o_row, .inl (cI, 224, .inl o_row_v))] sz) := by
  refine hg_ofW (cc := cX5_give) (maxL := 2) (ret := (some .int)) (own := RX5) (fun A => hgQi (dC, dI) u.1 [(o_h, .inr (5, [.int o_players, .int o_bars, .ref o_price, .ref o_breath, .ref o_kind, .ref o_looks, .ref o_noise, .ref o_repeat, .ref o_now, .ref o_readPlayer, .ref o_readBar, .int o_readPlayers, .int o_readBars, .ref o_text, .int o_length, .int o_at, .int o_faultAt, .int u.2.1, .int u.2.2.1, .ref o_row, .int o_heard, .ref o_heardOf, .ref o_heardBars, .ref o_heardPlays, .int o_hushWho, .int o_hushSum, .long o_seed, .ref o_isKept, .ref o_kept])), (o_now, .inl (cI, 32, .inl u.2.2.2.1)), (o_row, .inl (cI, 224, .inl u.2.2.2.2))] A) rfl (by decide) rfl (Nat.le_of_ble_eq_true rfl) ?_
  intro p e s m below meth c ls A hsz hx hb hr hml hown hts hlk hnm hK hN hA hP hD hS hl
  subst hsz
  have w1 := hts (.constantLong RX5 142 (9)) (List.mem_of_getElem? (i := 1) rfl)
  have w2 := hts (.fieldLink RX5 28 "HatGoesRoundModel" "now" "[I") (List.mem_of_getElem? (i := 2) rfl)
  have hinX5 : ∀ w ∈ u_ws RX5 TX5 29, w ∈ wsX5_give := fun _ h => List.mem_cons_of_mem _ (List.mem_append_right _ h)
  have hl : lv_has ls 2 [(0, .ref o_h), (1, .int x0)] := hl
  unfold f_X5_give at hu
  refine lv_iload_n hx hb dX5_give_0 rfl (lv_at hl 1 rfl) ?_
  refine lv_i2l (v := (Int32.toInt64 x0)) hx hb dX5_give_1 rfl ?_
  refine lv_lconst (v := 1) hx hb dX5_give_2 (by decide) ?_
  refine lv_ldc2 (v := 9) hx hb hown w1 dX5_give_3 ?_
  obtain ⟨r1, er1, hu⟩ := lxb_o hu
  refine hg_ci (va_runS (As := [.long (Int32.toInt64 x0), .long 1, .long 9]) (rest := []) ⟨hx, hb, hml, hown, hts⟩ (c_X5_in l dC dI cI cZ cM _ (Int32.toInt64 x0) 1 9 r1 er1) (va_cwS 3 hts gX5_give_X5_in rfl rfl rfl (by decide +kernel) ⟨Nat.le_of_ble_eq_true rfl, Nat.le_of_ble_eq_true rfl⟩) (hgPreS hP hD hK hN [] rfl rfl) rfl rfl hl.1 rfl (lv_room (Nat.le_of_ble_eq_true rfl)) dX5_give_6 ⟨Nat.zero_le _, Nat.zero_le _⟩) hP hD hS hA (wr := [(o_h, .inr (5, [.int o_players, .int o_bars, .ref o_price, .ref o_breath, .ref o_kind, .ref o_looks, .ref o_noise, .ref o_repeat, .ref o_now, .ref o_readPlayer, .ref o_readBar, .int o_readPlayers, .int o_readBars, .ref o_text, .int o_length, .int o_at, .int o_faultAt, .int o_acts, .int o_next, .ref o_row, .int o_heard, .ref o_heardOf, .ref o_heardBars, .ref o_heardPlays, .int o_hushWho, .int o_hushSum, .long o_seed, .ref o_isKept, .ref o_kept])), (o_now, .inl (cI, 32, .inl o_now_v)), (o_row, .inl (cI, 224, .inl o_row_v))]) (wf := [(o_h, .inr (5, [.int o_players, .int o_bars, .ref o_price, .ref o_breath, .ref o_kind, .ref o_looks, .ref o_noise, .ref o_repeat, .ref o_now, .ref o_readPlayer, .ref o_readBar, .int o_readPlayers, .int o_readBars, .ref o_text, .int o_length, .int o_at, .int o_faultAt, .int o_acts, .int o_next, .ref o_row, .int o_heard, .ref o_heardOf, .ref o_heardBars, .ref o_heardPlays, .int o_hushWho, .int o_hushSum, .long o_seed, .ref o_isKept, .ref o_kept])), (o_now, .inl (cI, 32, .inl o_now_v)), (o_row, .inl (cI, 224, .inl o_row_v))]) [] [0, 1, 2] [0, 1, 2] rfl rfl rfl (by decide) rfl rfl (fun H locs hP hD hS => ?_)
  refine lv_if_ne (tgt := 15) hx hb dX5_give_9 (by decide) (fun c_9 => ?_) (fun c_9 => ?_)
  · have hu := hu.trans (if_neg c_9)
    refine lv_aload_n hx hb dX5_give_15 rfl (lv_at hl 0 rfl) ?_
    obtain ⟨r2, er2, hu⟩ := lxb_o hu
    refine hg_cv (va_runV (As := []) (rest := []) ⟨hx, hb, hml, hown, hts⟩ (c_X5_keepAct l dC dI cI cZ cM _ o_h o_players o_bars o_price o_breath o_kind o_looks o_noise o_repeat o_now o_readPlayer o_readBar o_readPlayers o_readBars o_text o_length o_at o_faultAt o_acts o_next o_row o_heard o_heardOf o_heardBars o_heardPlays o_hushWho o_hushSum o_seed o_isKept o_kept o_now_v o_row_v np enp (by omega) nb enb (by omega) nx enx (by omega) r2 er2) (cwV 0 hts gX5_give_X5_keepAct rfl rfl rfl (by decide +kernel) ⟨Nat.le_of_ble_eq_true rfl, Nat.le_of_ble_eq_true rfl⟩) (hgPreV (C := RX5) (T := TX5) (N := 29) (ci := 5) (q0 := 0) hP hD hK hN [0, 1, 2] rfl rfl rfl rfl) rfl rfl hl.1 rfl (lv_room (Nat.le_of_ble_eq_true rfl)) dX5_give_16 ⟨Nat.zero_le _, Nat.zero_le _⟩) hP hD hS hA (wr := []) (wf := [(o_h, .inr (5, [.int o_players, .int o_bars, .ref o_price, .ref o_breath, .ref o_kind, .ref o_looks, .ref o_noise, .ref o_repeat, .ref o_now, .ref o_readPlayer, .ref o_readBar, .int o_readPlayers, .int o_readBars, .ref o_text, .int o_length, .int o_at, .int o_faultAt, .int r2.1, .int r2.2.1, .ref o_row, .int o_heard, .ref o_heardOf, .ref o_heardBars, .ref o_heardPlays, .int o_hushWho, .int o_hushSum, .long o_seed, .ref o_isKept, .ref o_kept])), (o_now, .inl (cI, 32, .inl o_now_v)), (o_row, .inl (cI, 224, .inl r2.2.2))]) [0, 1, 2] [] [0, 1, 2] rfl rfl rfl (by decide) rfl rfl (fun H locs hP hD hS => ?_)
    refine lv_aload_n hx hb dX5_give_19 rfl (lv_at hl 0 rfl) ?_
    refine lv_iconst (v := 0) hx hb dX5_give_20 (by decide) ?_
    refine lv_iload_n hx hb dX5_give_21 rfl (lv_at hl 1 rfl) ?_
    obtain ⟨r3, er3, hu⟩ := lxb_o hu
    refine hg_cvE (va_runV (As := [.int 0, .int x0]) (rest := []) ⟨hx, hb, hml, hown, hts⟩ (c_X5_giveOn l dC dI cI cZ cM _ o_h 0 x0 o_players o_bars o_price o_breath o_kind o_looks o_noise o_repeat o_now o_readPlayer o_readBar o_readPlayers o_readBars o_text o_length o_at o_faultAt r2.1 r2.2.1 o_row o_heard o_heardOf o_heardBars o_heardPlays o_hushWho o_hushSum o_seed o_isKept o_kept o_now_v np enp (by omega) nb enb (by omega) 0 (show (0 : Int32) = nI 0 from rfl) (by omega) hB r3 er3) (cwV 2 hts gX5_give_X5_giveOn rfl rfl rfl (by decide +kernel) ⟨Nat.le_of_ble_eq_true rfl, Nat.le_of_ble_eq_true rfl⟩) (hgPreV (C := RX5) (T := TX5) (N := 29) (ci := 5) (q0 := 0) hP hD hK hN [0, 1] rfl rfl rfl rfl) rfl rfl hl.1 rfl (lv_room (Nat.le_of_ble_eq_true rfl)) dX5_give_22 ⟨Nat.zero_le _, Nat.zero_le _⟩) hP hD hS hA (wr := [(o_row, .inl (cI, 224, .inl r2.2.2))]) (wf := [(o_h, .inr (5, [.int o_players, .int o_bars, .ref o_price, .ref o_breath, .ref o_kind, .ref o_looks, .ref o_noise, .ref o_repeat, .ref o_now, .ref o_readPlayer, .ref o_readBar, .int o_readPlayers, .int o_readBars, .ref o_text, .int o_length, .int o_at, .int o_faultAt, .int r2.1, .int r2.2.1, .ref o_row, .int o_heard, .ref o_heardOf, .ref o_heardBars, .ref o_heardPlays, .int o_hushWho, .int o_hushSum, .long o_seed, .ref o_isKept, .ref o_kept])), (o_now, .inl (cI, 32, .inl r3)), (o_row, .inl (cI, 224, .inl r2.2.2))]) [0, 1] [2] [1, 2, 0] rfl rfl rfl (by decide) rfl rfl (fun hB4 H locs hP hD hS => ?_)
    refine lv_aload_n hx hb dX5_give_25 rfl (lv_at hl 0 rfl) ?_
    refine va_get (D := (dC, dI)) (ci := 5) (v := .ref o_now) (C := RX5) (T := TX5) (N := 29) hx hb hts hinX5 hown hK hP 0 rfl rfl 8 (by decide) w2 (fun _ h9 => h9) rfl dX5_give_26 ?_
    refine lv_bipush (v := 14) hx hb dX5_give_29 (by decide) ?_
    refine va_iald hx hb hK hP 1 0 rfl rfl (n := 32) (f := r3) (hg_in (n := 14) (N := 32) (show (14 : Int32) = nI 14 from rfl) (by omega) (by decide)) dX5_give_31 ?_
    subst hu
    exact hg_ri hx hb hr hlk rfl hP hD hS dX5_give_32
  · have hu := hu.trans (if_pos c_9)
    refine lv_bipush (v := (-2)) hx hb dX5_give_12 (by decide) ?_
    subst hu
    exact hg_ri hx hb hr hlk rfl hP hD hS dX5_give_14

set_option maxHeartbeats 4000000 in
set_option maxRecDepth 100000 in
theorem c_X5_canPay (l : Launch) (dC : Nat → ClassId) (dI : Nat → Nat → Nat) (cI cZ cM : ClassId) (sz : Nat) (o_h : Nat) (x0 : Int32) (x1 : Int32) (o_players : Int32) (o_bars : Int32) (o_price : Nat) (o_breath : Nat) (o_kind : Nat) (o_looks : Nat) (o_noise : Nat) (o_repeat : Nat) (o_now : Nat) (o_readPlayer : Nat) (o_readBar : Nat) (o_readPlayers : Int32) (o_readBars : Int32) (o_text : Nat) (o_length : Int32) (o_at : Int32) (o_faultAt : Int32) (o_acts : Int32) (o_next : Int32) (o_row : Nat) (o_heard : Int32) (o_heardOf : Nat) (o_heardBars : Nat) (o_heardPlays : Nat) (o_hushWho : Int32) (o_hushSum : Int32) (o_seed : Int64) (o_isKept : Nat) (o_kept : Nat) (o_now_v : Nat → Int32) (o_price_v : Nat → Int32) (np : Nat) (enp : o_players = nI np) (hnp : np ≤ 6) (nb : Nat) (enb : o_bars = nI nb) (hnb : nb ≤ 8) (lv : Nat) (elv : x0 = nI lv) (hlv : lv < 2) (u : Int32) (hu : u = f_X5_canPay x0 x1 o_players o_now_v o_price_v) : Met l yX5_canPay wsX5_canPay { frames := 3, cells := 0, slots := 0, locals := 68 } (hgPc [.ref o_h, .int x0, .int x1] (dC, dI) cI cZ cM [(o_h, .inr (5, [.int o_players, .int o_bars, .ref o_price, .ref o_breath, .ref o_kind, .ref o_looks, .ref o_noise, .ref o_repeat, .ref o_now, .ref o_readPlayer, .ref o_readBar, .int o_readPlayers, .int o_readBars, .ref o_text, .int o_length, .int o_at, .int o_faultAt, .int o_acts, .int o_next, .ref o_row, .int o_heard, .ref o_heardOf, .ref o_heardBars, .ref o_heardPlays, .int o_hushWho, .int o_hushSum, .long o_seed, .ref o_isKept, .ref o_kept])), (o_now, .inl (cI, 32, .inl o_now_v)), (o_price, .inl (cI, 6, .inl o_price_v))] sz) (hgQi (dC, dI) u [(o_h, .inr (5, [.int o_players, .int o_bars, .ref o_price, .ref o_breath, .ref o_kind, .ref o_looks, .ref o_noise, .ref o_repeat, .ref o_now, .ref o_readPlayer, .ref o_readBar, .int o_readPlayers, .int o_readBars, .ref o_text, .int o_length, .int o_at, .int o_faultAt, .int o_acts, .int o_next, .ref o_row, .int o_heard, .ref o_heardOf, .ref o_heardBars, .ref o_heardPlays, .int o_hushWho, .int o_hushSum, .long o_seed, .ref o_isKept, .ref o_kept])), (o_now, .inl (cI, 32, .inl o_now_v)), (o_price, .inl (cI, 6, .inl o_price_v))] (va_A [(o_h, .inr (5, [.int o_players, .int o_bars, .ref o_price, .ref o_breath, .ref o_kind, .ref o_looks, .ref o_noise, .ref o_repeat, .ref o_now, .ref o_readPlayer, .ref o_readBar, .int o_readPlayers, .int o_readBars, .ref o_text, .int o_length, .int o_at, .int o_faultAt, .int o_acts, .int o_next, .ref o_row, .int o_heard, .ref o_heardOf, .ref o_heardBars, .ref o_heardPlays, .int o_hushWho, .int o_hushSum, .long o_seed, .ref o_isKept, .ref o_kept])), (o_now, .inl (cI, 32, .inl o_now_v)), (o_price, .inl (cI, 6, .inl o_price_v))] sz)) 0 0 (va_A [(o_h, .inr (5, [.int o_players, .int o_bars, .ref o_price, .ref o_breath, .ref o_kind, .ref o_looks, .ref o_noise, .ref o_repeat, .ref o_now, .ref o_readPlayer, .ref o_readBar, .int o_readPlayers, .int o_readBars, .ref o_text, .int o_length, .int o_at, .int o_faultAt, .int o_acts, .int o_next, .ref o_row, .int o_heard, .ref o_heardOf, .ref o_heardBars, .ref o_heardPlays, .int o_hushWho, .int o_hushSum, .long o_seed, .ref o_isKept, .ref o_kept])), (o_now, .inl (cI, 32, .inl o_now_v)), (o_price, .inl (cI, 6, .inl o_price_v))] sz) := by
  refine hg_ofW (cc := cX5_canPay) (maxL := 3) (ret := (some .boolean)) (own := RX5) (fun A => hgQi (dC, dI) u [(o_h, .inr (5, [.int o_players, .int o_bars, .ref o_price, .ref o_breath, .ref o_kind, .ref o_looks, .ref o_noise, .ref o_repeat, .ref o_now, .ref o_readPlayer, .ref o_readBar, .int o_readPlayers, .int o_readBars, .ref o_text, .int o_length, .int o_at, .int o_faultAt, .int o_acts, .int o_next, .ref o_row, .int o_heard, .ref o_heardOf, .ref o_heardBars, .ref o_heardPlays, .int o_hushWho, .int o_hushSum, .long o_seed, .ref o_isKept, .ref o_kept])), (o_now, .inl (cI, 32, .inl o_now_v)), (o_price, .inl (cI, 6, .inl o_price_v))] A) rfl (by decide) rfl (Nat.le_of_ble_eq_true rfl) ?_
  intro p e s m below meth c ls A hsz hx hb hr hml hown hts hlk hnm hK hN hA hP hD hS hl
  subst hsz
  have w1 := hts (.fieldLink RX5 28 "HatGoesRoundModel" "now" "[I") (List.mem_of_getElem? (i := 1) rfl)
  have hinX5 : ∀ w ∈ u_ws RX5 TX5 29, w ∈ wsX5_canPay := fun _ h => List.mem_cons_of_mem _ (List.mem_append_right _ h)
  have w2 := hts (.fieldLink RX5 7 "HatGoesRoundModel" "price" "[I") (List.mem_of_getElem? (i := 2) rfl)
  have hl : lv_has ls 3 [(0, .ref o_h), (1, .int x0), (2, .int x1)] := hl
  unfold f_X5_canPay at hu
  refine lv_aload_n hx hb dX5_canPay_0 rfl (lv_at hl 0 rfl) ?_
  refine lv_iload_n hx hb dX5_canPay_1 rfl (lv_at hl 1 rfl) ?_
  refine lv_iload_n hx hb dX5_canPay_2 rfl (lv_at hl 2 rfl) ?_
  obtain ⟨r1, er1, hu⟩ := lxb_o hu
  refine hg_ci (va_runV (As := [.int x0, .int x1]) (rest := []) ⟨hx, hb, hml, hown, hts⟩ (c_X5_plays l dC dI cI cZ cM _ o_h x0 x1 o_players o_bars o_price o_breath o_kind o_looks o_noise o_repeat o_now o_readPlayer o_readBar o_readPlayers o_readBars o_text o_length o_at o_faultAt o_acts o_next o_row o_heard o_heardOf o_heardBars o_heardPlays o_hushWho o_hushSum o_seed o_isKept o_kept o_now_v np enp (by omega) nb enb (by omega) lv elv (by omega) r1 er1) (cwV 2 hts gX5_canPay_X5_plays rfl rfl rfl (by decide +kernel) ⟨Nat.le_of_ble_eq_true rfl, Nat.le_of_ble_eq_true rfl⟩) (hgPreV (C := RX5) (T := TX5) (N := 29) (ci := 5) (q0 := 0) hP hD hK hN [0, 1] rfl rfl rfl rfl) rfl rfl hl.1 rfl (lv_room (Nat.le_of_ble_eq_true rfl)) dX5_canPay_3 ⟨Nat.zero_le _, Nat.zero_le _⟩) hP hD hS hA (wr := [(o_price, .inl (cI, 6, .inl o_price_v))]) (wf := [(o_h, .inr (5, [.int o_players, .int o_bars, .ref o_price, .ref o_breath, .ref o_kind, .ref o_looks, .ref o_noise, .ref o_repeat, .ref o_now, .ref o_readPlayer, .ref o_readBar, .int o_readPlayers, .int o_readBars, .ref o_text, .int o_length, .int o_at, .int o_faultAt, .int o_acts, .int o_next, .ref o_row, .int o_heard, .ref o_heardOf, .ref o_heardBars, .ref o_heardPlays, .int o_hushWho, .int o_hushSum, .long o_seed, .ref o_isKept, .ref o_kept])), (o_now, .inl (cI, 32, .inl o_now_v)), (o_price, .inl (cI, 6, .inl o_price_v))]) [0, 1] [2] [1, 2, 0] rfl rfl rfl (by decide) rfl rfl (fun H locs hP hD hS => ?_)
  refine lv_if_eq (tgt := 34) hx hb dX5_canPay_6 (by decide) (fun c_6 => ?_) (fun c_6 => ?_)
  · have hu := hu.trans (if_pos c_6)
    refine lv_iconst (v := 0) hx hb dX5_canPay_34 (by decide) ?_
    subst hu
    exact hg_rz hx hb hr hlk (by decide) rfl hP hD hS dX5_canPay_35
  · have hu := hu.trans (if_neg c_6)
    obtain ⟨jp, hjp, ejp⟩ := mPlays enp hnp er1 c_6
    refine lv_aload_n hx hb dX5_canPay_9 rfl (lv_at hl 0 rfl) ?_
    refine va_get (D := (dC, dI)) (ci := 5) (v := .ref o_now) (C := RX5) (T := TX5) (N := 29) hx hb hts hinX5 hown hK hP 0 rfl rfl 8 (by decide) w1 (fun _ h9 => h9) rfl dX5_canPay_10 ?_
    refine lv_bipush (v := 16) hx hb dX5_canPay_13 (by decide) ?_
    refine lv_iload_n hx hb dX5_canPay_15 rfl (lv_at hl 1 rfl) ?_
    refine lv_imul hx hb dX5_canPay_16 ?_
    refine lv_bipush (v := 14) hx hb dX5_canPay_17 (by decide) ?_
    refine lv_iadd hx hb dX5_canPay_19 ?_
    refine va_iald hx hb hK hP 1 0 rfl rfl (n := 32) (f := o_now_v) (hg_in (n := ((16 * lv) + 14)) (N := 32) (nx_add (nx_mul (show (16 : Int32) = nI 16 from rfl) elv) (show (14 : Int32) = nI 14 from rfl)) (by omega) (by decide)) dX5_canPay_20 ?_
    refine lv_aload_n hx hb dX5_canPay_21 rfl (lv_at hl 0 rfl) ?_
    refine va_get (D := (dC, dI)) (ci := 5) (v := .ref o_price) (C := RX5) (T := TX5) (N := 29) hx hb hts hinX5 hown hK hP 0 rfl rfl 2 (by decide) w2 (fun _ h9 => h9) rfl dX5_canPay_22 ?_
    refine lv_iload_n hx hb dX5_canPay_25 rfl (lv_at hl 2 rfl) ?_
    refine va_iald hx hb hK hP 2 0 rfl rfl (n := 6) (f := o_price_v) (hg_in (n := jp) (N := 6) ejp (by omega) (by decide)) dX5_canPay_26 ?_
    refine lv_icmp_lt (tgt := 34) hx hb dX5_canPay_27 (by decide) (fun c_27 => ?_) (fun c_27 => ?_)
    · have hu := hu.trans (if_pos c_27)
      refine lv_iconst (v := 0) hx hb dX5_canPay_34 (by decide) ?_
      subst hu
      exact hg_rz hx hb hr hlk (by decide) rfl hP hD hS dX5_canPay_35
    · have hu := hu.trans (if_neg c_27)
      refine lv_iconst (v := 1) hx hb dX5_canPay_30 (by decide) ?_
      refine lv_goto (tgt := 35) hx hb dX5_canPay_31 (by decide) ?_
      subst hu
      exact hg_rz hx hb hr hlk (by decide) rfl hP hD hS dX5_canPay_35

set_option maxHeartbeats 4000000 in
set_option maxRecDepth 100000 in
theorem c_X5_payOn (l : Launch) (dC : Nat → ClassId) (dI : Nat → Nat → Nat) (cI cZ cM : ClassId) (sz : Nat) (o_h : Nat) (x0 : Int32) (x1 : Int32) (o_players : Int32) (o_bars : Int32) (o_price : Nat) (o_breath : Nat) (o_kind : Nat) (o_looks : Nat) (o_noise : Nat) (o_repeat : Nat) (o_now : Nat) (o_readPlayer : Nat) (o_readBar : Nat) (o_readPlayers : Int32) (o_readBars : Int32) (o_text : Nat) (o_length : Int32) (o_at : Int32) (o_faultAt : Int32) (o_acts : Int32) (o_next : Int32) (o_row : Nat) (o_heard : Int32) (o_heardOf : Nat) (o_heardBars : Nat) (o_heardPlays : Nat) (o_hushWho : Int32) (o_hushSum : Int32) (o_seed : Int64) (o_isKept : Nat) (o_kept : Nat) (o_now_v : Nat → Int32) (o_price_v : Nat → Int32) (np : Nat) (enp : o_players = nI np) (hnp : np ≤ 6) (nb : Nat) (enb : o_bars = nI nb) (hnb : nb ≤ 8) (lv : Nat) (elv : x0 = nI lv) (hlv : lv < 2) (pv : Nat) (epv : x1 = nI pv) (hpv : pv < np) (hB : mB o_now_v) (u : (Nat → Int32)) (hu : u = f_X5_payOn x0 x1 o_now_v o_price_v) : Met l yX5_payOn wsX5_payOn { frames := 0, cells := 0, slots := 0, locals := 0 } (hgPc [.ref o_h, .int x0, .int x1] (dC, dI) cI cZ cM [(o_h, .inr (5, [.int o_players, .int o_bars, .ref o_price, .ref o_breath, .ref o_kind, .ref o_looks, .ref o_noise, .ref o_repeat, .ref o_now, .ref o_readPlayer, .ref o_readBar, .int o_readPlayers, .int o_readBars, .ref o_text, .int o_length, .int o_at, .int o_faultAt, .int o_acts, .int o_next, .ref o_row, .int o_heard, .ref o_heardOf, .ref o_heardBars, .ref o_heardPlays, .int o_hushWho, .int o_hushSum, .long o_seed, .ref o_isKept, .ref o_kept])), (o_now, .inl (cI, 32, .inl o_now_v)), (o_price, .inl (cI, 6, .inl o_price_v))] sz) (hgQvE (dC, dI) [(o_h, .inr (5, [.int o_players, .int o_bars, .ref o_price, .ref o_breath, .ref o_kind, .ref o_looks, .ref o_noise, .ref o_repeat, .ref o_now, .ref o_readPlayer, .ref o_readBar, .int o_readPlayers, .int o_readBars, .ref o_text, .int o_length, .int o_at, .int o_faultAt, .int o_acts, .int o_next, .ref o_row, .int o_heard, .ref o_heardOf, .ref o_heardBars, .ref o_heardPlays, .int o_hushWho, .int o_hushSum, .long o_seed, .ref o_isKept, .ref o_kept])), (o_now, .inl (cI, 32, .inl u)), (o_price, .inl (cI, 6, .inl o_price_v))] (mB u) (va_A [(o_h, .inr (5, [.int o_players, .int o_bars, .ref o_price, .ref o_breath, .ref o_kind, .ref o_looks, .ref o_noise, .ref o_repeat, .ref o_now, .ref o_readPlayer, .ref o_readBar, .int o_readPlayers, .int o_readBars, .ref o_text, .int o_length, .int o_at, .int o_faultAt, .int o_acts, .int o_next, .ref o_row, .int o_heard, .ref o_heardOf, .ref o_heardBars, .ref o_heardPlays, .int o_hushWho, .int o_hushSum, .long o_seed, .ref o_isKept, .ref o_kept])), (o_now, .inl (cI, 32, .inl o_now_v)), (o_price, .inl (cI, 6, .inl o_price_v))] sz)) 0 0 (va_A [(o_h, .inr (5, [.int o_players, .int o_bars, .ref o_price, .ref o_breath, .ref o_kind, .ref o_looks, .ref o_noise, .ref o_repeat, .ref o_now, .ref o_readPlayer, .ref o_readBar, .int o_readPlayers, .int o_readBars, .ref o_text, .int o_length, .int o_at, .int o_faultAt, .int o_acts, .int o_next, .ref o_row, .int o_heard, .ref o_heardOf, .ref o_heardBars, .ref o_heardPlays, .int o_hushWho, .int o_hushSum, .long o_seed, .ref o_isKept, .ref o_kept])), (o_now, .inl (cI, 32, .inl o_now_v)), (o_price, .inl (cI, 6, .inl o_price_v))] sz) := by
  refine hg_ofW (cc := cX5_payOn) (maxL := 3) (ret := none) (own := RX5) (fun A => hgQvE (dC, dI) [(o_h, .inr (5, [.int o_players, .int o_bars, .ref o_price, .ref o_breath, .ref o_kind, .ref o_looks, .ref o_noise, .ref o_repeat, .ref o_now, .ref o_readPlayer, .ref o_readBar, .int o_readPlayers, .int o_readBars, .ref o_text, .int o_length, .int o_at, .int o_faultAt, .int o_acts, .int o_next, .ref o_row, .int o_heard, .ref o_heardOf, .ref o_heardBars, .ref o_heardPlays, .int o_hushWho, .int o_hushSum, .long o_seed, .ref o_isKept, .ref o_kept])), (o_now, .inl (cI, 32, .inl u)), (o_price, .inl (cI, 6, .inl o_price_v))] (mB u) A) rfl (by decide) rfl (Nat.le_of_ble_eq_true rfl) ?_
  intro p e s m below meth c ls A hsz hx hb hr hml hown hts hlk hnm hK hN hA hP hD hS hl
  subst hsz
  have w1 := hts (.fieldLink RX5 28 "HatGoesRoundModel" "now" "[I") (List.mem_of_getElem? (i := 1) rfl)
  have hinX5 : ∀ w ∈ u_ws RX5 TX5 29, w ∈ wsX5_payOn := fun _ h => List.mem_cons_of_mem _ (List.mem_append_right _ h)
  have w2 := hts (.fieldLink RX5 7 "HatGoesRoundModel" "price" "[I") (List.mem_of_getElem? (i := 2) rfl)
  have hl : lv_has ls 3 [(0, .ref o_h), (1, .int x0), (2, .int x1)] := hl
  unfold f_X5_payOn at hu
  refine lv_aload_n hx hb dX5_payOn_0 rfl (lv_at hl 0 rfl) ?_
  refine va_get (D := (dC, dI)) (ci := 5) (v := .ref o_now) (C := RX5) (T := TX5) (N := 29) hx hb hts hinX5 hown hK hP 0 rfl rfl 8 (by decide) w1 (fun _ h9 => h9) rfl dX5_payOn_1 ?_
  refine lv_bipush (v := 16) hx hb dX5_payOn_4 (by decide) ?_
  refine lv_iload_n hx hb dX5_payOn_6 rfl (lv_at hl 1 rfl) ?_
  refine lv_imul hx hb dX5_payOn_7 ?_
  refine lv_bipush (v := 14) hx hb dX5_payOn_8 (by decide) ?_
  refine lv_iadd hx hb dX5_payOn_10 ?_
  refine lv_dup2_11 hx hb dX5_payOn_11 rfl rfl ?_
  refine va_iald hx hb hK hP 1 0 rfl rfl (n := 32) (f := o_now_v) (hg_in (n := ((16 * lv) + 14)) (N := 32) (nx_add (nx_mul (show (16 : Int32) = nI 16 from rfl) elv) (show (14 : Int32) = nI 14 from rfl)) (by omega) (by decide)) dX5_payOn_12 ?_
  refine lv_aload_n hx hb dX5_payOn_13 rfl (lv_at hl 0 rfl) ?_
  refine va_get (D := (dC, dI)) (ci := 5) (v := .ref o_price) (C := RX5) (T := TX5) (N := 29) hx hb hts hinX5 hown hK hP 0 rfl rfl 2 (by decide) w2 (fun _ h9 => h9) rfl dX5_payOn_14 ?_
  refine lv_iload_n hx hb dX5_payOn_17 rfl (lv_at hl 2 rfl) ?_
  refine va_iald hx hb hK hP 2 0 rfl rfl (n := 6) (f := o_price_v) (hg_in (n := pv) (N := 6) epv (by omega) (by decide)) dX5_payOn_18 ?_
  refine lv_isub hx hb dX5_payOn_19 ?_
  obtain ⟨y1, ey1, hu⟩ := lxb_o hu
  refine lv_topi (fun z ez => ?_)
  obtain rfl : y1 = z := ey1.trans ez.symm
  refine va_iast hx hb hK hP hD hS 1 0 rfl rfl (n := 32) (f := o_now_v) (hg_in (n := ((16 * lv) + 14)) (N := 32) (nx_add (nx_mul (show (16 : Int32) = nI 16 from rfl) elv) (show (14 : Int32) = nI 14 from rfl)) (by omega) (by decide)) dX5_payOn_20 (fun H locs hP hD hS => ?_)
  have hP : va_P (dC, dI) vwCl [(o_h, .inr (5, [.int o_players, .int o_bars, .ref o_price, .ref o_breath, .ref o_kind, .ref o_looks, .ref o_noise, .ref o_repeat, .ref o_now, .ref o_readPlayer, .ref o_readBar, .int o_readPlayers, .int o_readBars, .ref o_text, .int o_length, .int o_at, .int o_faultAt, .int o_acts, .int o_next, .ref o_row, .int o_heard, .ref o_heardOf, .ref o_heardBars, .ref o_heardPlays, .int o_hushWho, .int o_hushSum, .long o_seed, .ref o_isKept, .ref o_kept])), (o_now, .inl (cI, 32, .inl (upd o_now_v (Int32.toNatClampNeg ((16 * x0) + 14)) y1))), (o_price, .inl (cI, 6, .inl o_price_v))] H := hP
  have hD : va_D A [(o_h, .inr (5, [.int o_players, .int o_bars, .ref o_price, .ref o_breath, .ref o_kind, .ref o_looks, .ref o_noise, .ref o_repeat, .ref o_now, .ref o_readPlayer, .ref o_readBar, .int o_readPlayers, .int o_readBars, .ref o_text, .int o_length, .int o_at, .int o_faultAt, .int o_acts, .int o_next, .ref o_row, .int o_heard, .ref o_heardOf, .ref o_heardBars, .ref o_heardPlays, .int o_hushWho, .int o_hushSum, .long o_seed, .ref o_isKept, .ref o_kept])), (o_now, .inl (cI, 32, .inl (upd o_now_v (Int32.toNatClampNeg ((16 * x0) + 14)) y1))), (o_price, .inl (cI, 6, .inl o_price_v))] := hD
  have hB2 : mB (upd o_now_v (Int32.toNatClampNeg ((16 * x0) + 14)) y1) := mB_upd (n := ((16 * lv) + 14)) hB (nx_add (nx_mul (show (16 : Int32) = nI 16 from rfl) elv) (show (14 : Int32) = nI 14 from rfl)) (by omega) (fun q => absurd q (by omega))
  refine lv_aload_n hx hb dX5_payOn_21 rfl (lv_at hl 0 rfl) ?_
  refine va_get (D := (dC, dI)) (ci := 5) (v := .ref o_now) (C := RX5) (T := TX5) (N := 29) hx hb hts hinX5 hown hK hP 0 rfl rfl 8 (by decide) w1 (fun _ h9 => h9) rfl dX5_payOn_22 ?_
  refine lv_bipush (v := 16) hx hb dX5_payOn_25 (by decide) ?_
  refine lv_iload_n hx hb dX5_payOn_27 rfl (lv_at hl 1 rfl) ?_
  refine lv_imul hx hb dX5_payOn_28 ?_
  refine lv_iload_n hx hb dX5_payOn_29 rfl (lv_at hl 2 rfl) ?_
  refine lv_iadd hx hb dX5_payOn_30 ?_
  refine lv_iconst (v := 1) hx hb dX5_payOn_31 (by decide) ?_
  refine va_iast hx hb hK hP hD hS 1 0 rfl rfl (n := 32) (f := (upd o_now_v (Int32.toNatClampNeg ((16 * x0) + 14)) y1)) (hg_in (n := ((16 * lv) + pv)) (N := 32) (nx_add (nx_mul (show (16 : Int32) = nI 16 from rfl) elv) epv) (by omega) (by decide)) dX5_payOn_32 (fun H locs hP hD hS => ?_)
  have hP : va_P (dC, dI) vwCl [(o_h, .inr (5, [.int o_players, .int o_bars, .ref o_price, .ref o_breath, .ref o_kind, .ref o_looks, .ref o_noise, .ref o_repeat, .ref o_now, .ref o_readPlayer, .ref o_readBar, .int o_readPlayers, .int o_readBars, .ref o_text, .int o_length, .int o_at, .int o_faultAt, .int o_acts, .int o_next, .ref o_row, .int o_heard, .ref o_heardOf, .ref o_heardBars, .ref o_heardPlays, .int o_hushWho, .int o_hushSum, .long o_seed, .ref o_isKept, .ref o_kept])), (o_now, .inl (cI, 32, .inl (upd (upd o_now_v (Int32.toNatClampNeg ((16 * x0) + 14)) y1) (Int32.toNatClampNeg ((16 * x0) + x1)) 1))), (o_price, .inl (cI, 6, .inl o_price_v))] H := hP
  have hD : va_D A [(o_h, .inr (5, [.int o_players, .int o_bars, .ref o_price, .ref o_breath, .ref o_kind, .ref o_looks, .ref o_noise, .ref o_repeat, .ref o_now, .ref o_readPlayer, .ref o_readBar, .int o_readPlayers, .int o_readBars, .ref o_text, .int o_length, .int o_at, .int o_faultAt, .int o_acts, .int o_next, .ref o_row, .int o_heard, .ref o_heardOf, .ref o_heardBars, .ref o_heardPlays, .int o_hushWho, .int o_hushSum, .long o_seed, .ref o_isKept, .ref o_kept])), (o_now, .inl (cI, 32, .inl (upd (upd o_now_v (Int32.toNatClampNeg ((16 * x0) + 14)) y1) (Int32.toNatClampNeg ((16 * x0) + x1)) 1))), (o_price, .inl (cI, 6, .inl o_price_v))] := hD
  have hB3 : mB (upd (upd o_now_v (Int32.toNatClampNeg ((16 * x0) + 14)) y1) (Int32.toNatClampNeg ((16 * x0) + x1)) 1) := mB_upd (n := ((16 * lv) + pv)) hB2 (nx_add (nx_mul (show (16 : Int32) = nI 16 from rfl) elv) epv) (by omega) (fun q => absurd q (by omega))
  subst hu
  exact hg_rvE hx hb hr hlk hB3 hP hD hS dX5_payOn_33

set_option maxHeartbeats 4000000 in
set_option maxRecDepth 100000 in
theorem c_X5_pay (l : Launch) (dC : Nat → ClassId) (dI : Nat → Nat → Nat) (cI cZ cM : ClassId) (sz : Nat) (o_h : Nat) (x0 : Int32) (o_players : Int32) (o_bars : Int32) (o_price : Nat) (o_breath : Nat) (o_kind : Nat) (o_looks : Nat) (o_noise : Nat) (o_repeat : Nat) (o_now : Nat) (o_readPlayer : Nat) (o_readBar : Nat) (o_readPlayers : Int32) (o_readBars : Int32) (o_text : Nat) (o_length : Int32) (o_at : Int32) (o_faultAt : Int32) (o_acts : Int32) (o_next : Int32) (o_row : Nat) (o_heard : Int32) (o_heardOf : Nat) (o_heardBars : Nat) (o_heardPlays : Nat) (o_hushWho : Int32) (o_hushSum : Int32) (o_seed : Int64) (o_isKept : Nat) (o_kept : Nat) (o_now_v : Nat → Int32) (o_price_v : Nat → Int32) (o_row_v : Nat → Int32) (np : Nat) (enp : o_players = nI np) (hnp : np ≤ 6) (nb : Nat) (enb : o_bars = nI nb) (hnb : nb ≤ 8) (nx : Nat) (enx : o_next = nI nx) (hnx : nx < 14) (hB : mB o_now_v) (u : Int32 × Int32 × Int32 × (Nat → Int32) × (Nat → Int32)) (hu : u = f_X5_pay x0 o_players o_acts o_next o_now_v o_price_v o_row_v) : Met l yX5_pay wsX5_pay { frames := 4, cells := 0, slots := 0, locals := 90 } (hgPc [.ref o_h, .int x0] (dC, dI) cI cZ cM [(o_h, .inr (5, [.int o_players, .int o_bars, .ref o_price, .ref o_breath, .ref o_kind, .ref o_looks, .ref o_noise, .ref o_repeat, .ref o_now, .ref o_readPlayer, .ref o_readBar, .int o_readPlayers, .int o_readBars, .ref o_text, .int o_length, .int o_at, .int o_faultAt, .int o_acts, .int o_next, .ref o_row, .int o_heard, .ref o_heardOf, .ref o_heardBars, .ref o_heardPlays, .int o_hushWho, .int o_hushSum, .long o_seed, .ref o_isKept, .ref o_kept])), (o_now, .inl (cI, 32, .inl o_now_v)), (o_price, .inl (cI, 6, .inl o_price_v)), (o_row, .inl (cI, 224, .inl o_row_v))] sz) (hgQi (dC, dI) u.1 [(o_h, .inr (5, [.int o_players, .int o_bars, .ref o_price, .ref o_breath, .ref o_kind, .ref o_looks, .ref o_noise, .ref o_repeat, .ref o_now, .ref o_readPlayer, .ref o_readBar, .int o_readPlayers, .int o_readBars, .ref o_text, .int o_length, .int o_at, .int o_faultAt, .int u.2.1, .int u.2.2.1, .ref o_row, .int o_heard, .ref o_heardOf, .ref o_heardBars, .ref o_heardPlays, .int o_hushWho, .int o_hushSum, .long o_seed, .ref o_isKept, .ref o_kept])), (o_now, .inl (cI, 32, .inl u.2.2.2.1)), (o_price, .inl (cI, 6, .inl o_price_v)), (o_row, .inl (cI, 224, .inl u.2.2.2.2))] (va_A [(o_h, .inr (5, [.int o_players, .int o_bars, .ref o_price, .ref o_breath, .ref o_kind, .ref o_looks, .ref o_noise, .ref o_repeat, .ref o_now, .ref o_readPlayer, .ref o_readBar, .int o_readPlayers, .int o_readBars, .ref o_text, .int o_length, .int o_at, .int o_faultAt, .int o_acts, .int o_next, .ref o_row, .int o_heard, .ref o_heardOf, .ref o_heardBars, .ref o_heardPlays, .int o_hushWho, .int o_hushSum, .long o_seed, .ref o_isKept, .ref o_kept])), (o_now, .inl (cI, 32, .inl o_now_v)), (o_price, .inl (cI, 6, .inl o_price_v)), (o_row, .inl (cI, 224, .inl o_row_v))] sz)) 0 0 (va_A [(o_h, .inr (5, [.int o_players, .int o_bars, .ref o_price, .ref o_breath, .ref o_kind, .ref o_looks, .ref o_noise, .ref o_repeat, .ref o_now, .ref o_readPlayer, .ref o_readBar, .int o_readPlayers, .int o_readBars, .ref o_text, .int o_length, .int o_at, .int o_faultAt, .int o_acts, .int o_next, .ref o_row, .int o_heard, .ref o_heardOf, .ref o_heardBars, .ref o_heardPlays, .int o_hushWho, .int o_hushSum, .long o_seed, .ref o_isKept, .ref o_kept])), (o_now, .inl (cI, 32, .inl o_now_v)), (o_price, .inl (cI, 6, .inl o_price_v)), (o_row, .inl (cI, 224, .inl o_row_v))] sz) := by
  refine hg_ofW (cc := cX5_pay) (maxL := 2) (ret := (some .int)) (own := RX5) (fun A => hgQi (dC, dI) u.1 [(o_h, .inr (5, [.int o_players, .int o_bars, .ref o_price, .ref o_breath, .ref o_kind, .ref o_looks, .ref o_noise, .ref o_repeat, .ref o_now, .ref o_readPlayer, .ref o_readBar, .int o_readPlayers, .int o_readBars, .ref o_text, .int o_length, .int o_at, .int o_faultAt, .int u.2.1, .int u.2.2.1, .ref o_row, .int o_heard, .ref o_heardOf, .ref o_heardBars, .ref o_heardPlays, .int o_hushWho, .int o_hushSum, .long o_seed, .ref o_isKept, .ref o_kept])), (o_now, .inl (cI, 32, .inl u.2.2.2.1)), (o_price, .inl (cI, 6, .inl o_price_v)), (o_row, .inl (cI, 224, .inl u.2.2.2.2))] A) rfl (by decide) rfl (Nat.le_of_ble_eq_true rfl) ?_
  intro p e s m below meth c ls A hsz hx hb hr hml hown hts hlk hnm hK hN hA hP hD hS hl
  subst hsz
  have w1 := hts (.fieldLink RX5 28 "HatGoesRoundModel" "now" "[I") (List.mem_of_getElem? (i := 1) rfl)
  have hinX5 : ∀ w ∈ u_ws RX5 TX5 29, w ∈ wsX5_pay := fun _ h => List.mem_cons_of_mem _ (List.mem_append_right _ h)
  have hl : lv_has ls 2 [(0, .ref o_h), (1, .int x0)] := hl
  unfold f_X5_pay at hu
  refine lv_aload_n hx hb dX5_pay_0 rfl (lv_at hl 0 rfl) ?_
  refine lv_iload_n hx hb dX5_pay_1 rfl (lv_at hl 1 rfl) ?_
  obtain ⟨r1, er1, hu⟩ := lxb_o hu
  refine hg_ci (va_runV (As := [.int x0]) (rest := []) ⟨hx, hb, hml, hown, hts⟩ (c_X5_isPlayer l dC dI cI cZ cM _ o_h x0 o_players o_bars o_price o_breath o_kind o_looks o_noise o_repeat o_now o_readPlayer o_readBar o_readPlayers o_readBars o_text o_length o_at o_faultAt o_acts o_next o_row o_heard o_heardOf o_heardBars o_heardPlays o_hushWho o_hushSum o_seed o_isKept o_kept np enp (by omega) nb enb (by omega) r1 er1) (cwV 1 hts gX5_pay_X5_isPlayer rfl rfl rfl (by decide +kernel) ⟨Nat.le_of_ble_eq_true rfl, Nat.le_of_ble_eq_true rfl⟩) (hgPreV (C := RX5) (T := TX5) (N := 29) (ci := 5) (q0 := 0) hP hD hK hN [0] rfl rfl rfl rfl) rfl rfl hl.1 rfl (lv_room (Nat.le_of_ble_eq_true rfl)) dX5_pay_2 ⟨Nat.zero_le _, Nat.zero_le _⟩) hP hD hS hA (wr := [(o_now, .inl (cI, 32, .inl o_now_v)), (o_price, .inl (cI, 6, .inl o_price_v)), (o_row, .inl (cI, 224, .inl o_row_v))]) (wf := [(o_h, .inr (5, [.int o_players, .int o_bars, .ref o_price, .ref o_breath, .ref o_kind, .ref o_looks, .ref o_noise, .ref o_repeat, .ref o_now, .ref o_readPlayer, .ref o_readBar, .int o_readPlayers, .int o_readBars, .ref o_text, .int o_length, .int o_at, .int o_faultAt, .int o_acts, .int o_next, .ref o_row, .int o_heard, .ref o_heardOf, .ref o_heardBars, .ref o_heardPlays, .int o_hushWho, .int o_hushSum, .long o_seed, .ref o_isKept, .ref o_kept])), (o_now, .inl (cI, 32, .inl o_now_v)), (o_price, .inl (cI, 6, .inl o_price_v)), (o_row, .inl (cI, 224, .inl o_row_v))]) [0] [1, 2, 3] [3, 0, 1, 2] rfl rfl rfl (by decide) rfl rfl (fun H locs hP hD hS => ?_)
  refine lv_if_ne (tgt := 10) hx hb dX5_pay_5 (by decide) (fun c_5 => ?_) (fun c_5 => ?_)
  · have hu := hu.trans (if_neg c_5)
    obtain ⟨jp, hjp, ejp⟩ := mP enp hnp er1 c_5
    refine lv_aload_n hx hb dX5_pay_10 rfl (lv_at hl 0 rfl) ?_
    refine lv_iconst (v := 0) hx hb dX5_pay_11 (by decide) ?_
    refine lv_iload_n hx hb dX5_pay_12 rfl (lv_at hl 1 rfl) ?_
    obtain ⟨r2, er2, hu⟩ := lxb_o hu
    refine hg_ci (va_runV (As := [.int 0, .int x0]) (rest := []) ⟨hx, hb, hml, hown, hts⟩ (c_X5_canPay l dC dI cI cZ cM _ o_h 0 x0 o_players o_bars o_price o_breath o_kind o_looks o_noise o_repeat o_now o_readPlayer o_readBar o_readPlayers o_readBars o_text o_length o_at o_faultAt o_acts o_next o_row o_heard o_heardOf o_heardBars o_heardPlays o_hushWho o_hushSum o_seed o_isKept o_kept o_now_v o_price_v np enp (by omega) nb enb (by omega) 0 (show (0 : Int32) = nI 0 from rfl) (by omega) r2 er2) (cwV 2 hts gX5_pay_X5_canPay rfl rfl rfl (by decide +kernel) ⟨Nat.le_of_ble_eq_true rfl, Nat.le_of_ble_eq_true rfl⟩) (hgPreV (C := RX5) (T := TX5) (N := 29) (ci := 5) (q0 := 0) hP hD hK hN [0, 1, 2] rfl rfl rfl rfl) rfl rfl hl.1 rfl (lv_room (Nat.le_of_ble_eq_true rfl)) dX5_pay_13 ⟨Nat.zero_le _, Nat.zero_le _⟩) hP hD hS hA (wr := [(o_row, .inl (cI, 224, .inl o_row_v))]) (wf := [(o_h, .inr (5, [.int o_players, .int o_bars, .ref o_price, .ref o_breath, .ref o_kind, .ref o_looks, .ref o_noise, .ref o_repeat, .ref o_now, .ref o_readPlayer, .ref o_readBar, .int o_readPlayers, .int o_readBars, .ref o_text, .int o_length, .int o_at, .int o_faultAt, .int o_acts, .int o_next, .ref o_row, .int o_heard, .ref o_heardOf, .ref o_heardBars, .ref o_heardPlays, .int o_hushWho, .int o_hushSum, .long o_seed, .ref o_isKept, .ref o_kept])), (o_now, .inl (cI, 32, .inl o_now_v)), (o_price, .inl (cI, 6, .inl o_price_v)), (o_row, .inl (cI, 224, .inl o_row_v))]) [0, 1, 2] [3] [1, 2, 3, 0] rfl rfl rfl (by decide) rfl rfl (fun H locs hP hD hS => ?_)
    refine lv_if_ne (tgt := 22) hx hb dX5_pay_16 (by decide) (fun c_16 => ?_) (fun c_16 => ?_)
    · have hu := hu.trans (if_neg c_16)
      refine lv_aload_n hx hb dX5_pay_22 rfl (lv_at hl 0 rfl) ?_
      obtain ⟨r3, er3, hu⟩ := lxb_o hu
      refine hg_cv (va_runV (As := []) (rest := []) ⟨hx, hb, hml, hown, hts⟩ (c_X5_keepAct l dC dI cI cZ cM _ o_h o_players o_bars o_price o_breath o_kind o_looks o_noise o_repeat o_now o_readPlayer o_readBar o_readPlayers o_readBars o_text o_length o_at o_faultAt o_acts o_next o_row o_heard o_heardOf o_heardBars o_heardPlays o_hushWho o_hushSum o_seed o_isKept o_kept o_now_v o_row_v np enp (by omega) nb enb (by omega) nx enx (by omega) r3 er3) (cwV 0 hts gX5_pay_X5_keepAct rfl rfl rfl (by decide +kernel) ⟨Nat.le_of_ble_eq_true rfl, Nat.le_of_ble_eq_true rfl⟩) (hgPreV (C := RX5) (T := TX5) (N := 29) (ci := 5) (q0 := 0) hP hD hK hN [0, 1, 3] rfl rfl rfl rfl) rfl rfl hl.1 rfl (lv_room (Nat.le_of_ble_eq_true rfl)) dX5_pay_23 ⟨Nat.zero_le _, Nat.zero_le _⟩) hP hD hS hA (wr := [(o_price, .inl (cI, 6, .inl o_price_v))]) (wf := [(o_h, .inr (5, [.int o_players, .int o_bars, .ref o_price, .ref o_breath, .ref o_kind, .ref o_looks, .ref o_noise, .ref o_repeat, .ref o_now, .ref o_readPlayer, .ref o_readBar, .int o_readPlayers, .int o_readBars, .ref o_text, .int o_length, .int o_at, .int o_faultAt, .int r3.1, .int r3.2.1, .ref o_row, .int o_heard, .ref o_heardOf, .ref o_heardBars, .ref o_heardPlays, .int o_hushWho, .int o_hushSum, .long o_seed, .ref o_isKept, .ref o_kept])), (o_now, .inl (cI, 32, .inl o_now_v)), (o_price, .inl (cI, 6, .inl o_price_v)), (o_row, .inl (cI, 224, .inl r3.2.2))]) [0, 1, 3] [2] [1, 2, 0, 3] rfl rfl rfl (by decide) rfl rfl (fun H locs hP hD hS => ?_)
      refine lv_aload_n hx hb dX5_pay_26 rfl (lv_at hl 0 rfl) ?_
      refine lv_iconst (v := 0) hx hb dX5_pay_27 (by decide) ?_
      refine lv_iload_n hx hb dX5_pay_28 rfl (lv_at hl 1 rfl) ?_
      obtain ⟨r4, er4, hu⟩ := lxb_o hu
      refine hg_cvE (va_runV (As := [.int 0, .int x0]) (rest := []) ⟨hx, hb, hml, hown, hts⟩ (c_X5_payOn l dC dI cI cZ cM _ o_h 0 x0 o_players o_bars o_price o_breath o_kind o_looks o_noise o_repeat o_now o_readPlayer o_readBar o_readPlayers o_readBars o_text o_length o_at o_faultAt r3.1 r3.2.1 o_row o_heard o_heardOf o_heardBars o_heardPlays o_hushWho o_hushSum o_seed o_isKept o_kept o_now_v o_price_v np enp (by omega) nb enb (by omega) 0 (show (0 : Int32) = nI 0 from rfl) (by omega) jp ejp (by omega) hB r4 er4) (cwV 2 hts gX5_pay_X5_payOn rfl rfl rfl (by decide +kernel) ⟨Nat.le_of_ble_eq_true rfl, Nat.le_of_ble_eq_true rfl⟩) (hgPreV (C := RX5) (T := TX5) (N := 29) (ci := 5) (q0 := 0) hP hD hK hN [0, 1, 2] rfl rfl rfl rfl) rfl rfl hl.1 rfl (lv_room (Nat.le_of_ble_eq_true rfl)) dX5_pay_29 ⟨Nat.zero_le _, Nat.zero_le _⟩) hP hD hS hA (wr := [(o_row, .inl (cI, 224, .inl r3.2.2))]) (wf := [(o_h, .inr (5, [.int o_players, .int o_bars, .ref o_price, .ref o_breath, .ref o_kind, .ref o_looks, .ref o_noise, .ref o_repeat, .ref o_now, .ref o_readPlayer, .ref o_readBar, .int o_readPlayers, .int o_readBars, .ref o_text, .int o_length, .int o_at, .int o_faultAt, .int r3.1, .int r3.2.1, .ref o_row, .int o_heard, .ref o_heardOf, .ref o_heardBars, .ref o_heardPlays, .int o_hushWho, .int o_hushSum, .long o_seed, .ref o_isKept, .ref o_kept])), (o_now, .inl (cI, 32, .inl r4)), (o_price, .inl (cI, 6, .inl o_price_v)), (o_row, .inl (cI, 224, .inl r3.2.2))]) [0, 1, 2] [3] [1, 2, 3, 0] rfl rfl rfl (by decide) rfl rfl (fun hB5 H locs hP hD hS => ?_)
      refine lv_aload_n hx hb dX5_pay_32 rfl (lv_at hl 0 rfl) ?_
      refine va_get (D := (dC, dI)) (ci := 5) (v := .ref o_now) (C := RX5) (T := TX5) (N := 29) hx hb hts hinX5 hown hK hP 0 rfl rfl 8 (by decide) w1 (fun _ h9 => h9) rfl dX5_pay_33 ?_
      refine lv_bipush (v := 14) hx hb dX5_pay_36 (by decide) ?_
      refine va_iald hx hb hK hP 1 0 rfl rfl (n := 32) (f := r4) (hg_in (n := 14) (N := 32) (show (14 : Int32) = nI 14 from rfl) (by omega) (by decide)) dX5_pay_38 ?_
      subst hu
      exact hg_ri hx hb hr hlk rfl hP hD hS dX5_pay_39
    · have hu := hu.trans (if_pos c_16)
      refine lv_bipush (v := (-3)) hx hb dX5_pay_19 (by decide) ?_
      subst hu
      exact hg_ri hx hb hr hlk rfl hP hD hS dX5_pay_21
  · have hu := hu.trans (if_pos c_5)
    refine lv_iconst (v := (-1)) hx hb dX5_pay_8 (by decide) ?_
    subst hu
    exact hg_ri hx hb hr hlk rfl hP hD hS dX5_pay_9

set_option maxHeartbeats 4000000 in
set_option maxRecDepth 100000 in
theorem c_X5_canRest (l : Launch) (dC : Nat → ClassId) (dI : Nat → Nat → Nat) (cI cZ cM : ClassId) (sz : Nat) (o_h : Nat) (x0 : Int32) (x1 : Int32) (o_players : Int32) (o_bars : Int32) (o_price : Nat) (o_breath : Nat) (o_kind : Nat) (o_looks : Nat) (o_noise : Nat) (o_repeat : Nat) (o_now : Nat) (o_readPlayer : Nat) (o_readBar : Nat) (o_readPlayers : Int32) (o_readBars : Int32) (o_text : Nat) (o_length : Int32) (o_at : Int32) (o_faultAt : Int32) (o_acts : Int32) (o_next : Int32) (o_row : Nat) (o_heard : Int32) (o_heardOf : Nat) (o_heardBars : Nat) (o_heardPlays : Nat) (o_hushWho : Int32) (o_hushSum : Int32) (o_seed : Int64) (o_isKept : Nat) (o_kept : Nat) (o_now_v : Nat → Int32) (o_breath_v : Nat → Int32) (np : Nat) (enp : o_players = nI np) (hnp : np ≤ 6) (nb : Nat) (enb : o_bars = nI nb) (hnb : nb ≤ 8) (lv : Nat) (elv : x0 = nI lv) (hlv : lv < 2) (u : Int32) (hu : u = f_X5_canRest x0 x1 o_players o_now_v o_breath_v) : Met l yX5_canRest wsX5_canRest { frames := 2, cells := 0, slots := 0, locals := 46 } (hgPc [.ref o_h, .int x0, .int x1] (dC, dI) cI cZ cM [(o_h, .inr (5, [.int o_players, .int o_bars, .ref o_price, .ref o_breath, .ref o_kind, .ref o_looks, .ref o_noise, .ref o_repeat, .ref o_now, .ref o_readPlayer, .ref o_readBar, .int o_readPlayers, .int o_readBars, .ref o_text, .int o_length, .int o_at, .int o_faultAt, .int o_acts, .int o_next, .ref o_row, .int o_heard, .ref o_heardOf, .ref o_heardBars, .ref o_heardPlays, .int o_hushWho, .int o_hushSum, .long o_seed, .ref o_isKept, .ref o_kept])), (o_now, .inl (cI, 32, .inl o_now_v)), (o_breath, .inl (cI, 6, .inl o_breath_v))] sz) (hgQi (dC, dI) u [(o_h, .inr (5, [.int o_players, .int o_bars, .ref o_price, .ref o_breath, .ref o_kind, .ref o_looks, .ref o_noise, .ref o_repeat, .ref o_now, .ref o_readPlayer, .ref o_readBar, .int o_readPlayers, .int o_readBars, .ref o_text, .int o_length, .int o_at, .int o_faultAt, .int o_acts, .int o_next, .ref o_row, .int o_heard, .ref o_heardOf, .ref o_heardBars, .ref o_heardPlays, .int o_hushWho, .int o_hushSum, .long o_seed, .ref o_isKept, .ref o_kept])), (o_now, .inl (cI, 32, .inl o_now_v)), (o_breath, .inl (cI, 6, .inl o_breath_v))] (va_A [(o_h, .inr (5, [.int o_players, .int o_bars, .ref o_price, .ref o_breath, .ref o_kind, .ref o_looks, .ref o_noise, .ref o_repeat, .ref o_now, .ref o_readPlayer, .ref o_readBar, .int o_readPlayers, .int o_readBars, .ref o_text, .int o_length, .int o_at, .int o_faultAt, .int o_acts, .int o_next, .ref o_row, .int o_heard, .ref o_heardOf, .ref o_heardBars, .ref o_heardPlays, .int o_hushWho, .int o_hushSum, .long o_seed, .ref o_isKept, .ref o_kept])), (o_now, .inl (cI, 32, .inl o_now_v)), (o_breath, .inl (cI, 6, .inl o_breath_v))] sz)) 0 0 (va_A [(o_h, .inr (5, [.int o_players, .int o_bars, .ref o_price, .ref o_breath, .ref o_kind, .ref o_looks, .ref o_noise, .ref o_repeat, .ref o_now, .ref o_readPlayer, .ref o_readBar, .int o_readPlayers, .int o_readBars, .ref o_text, .int o_length, .int o_at, .int o_faultAt, .int o_acts, .int o_next, .ref o_row, .int o_heard, .ref o_heardOf, .ref o_heardBars, .ref o_heardPlays, .int o_hushWho, .int o_hushSum, .long o_seed, .ref o_isKept, .ref o_kept])), (o_now, .inl (cI, 32, .inl o_now_v)), (o_breath, .inl (cI, 6, .inl o_breath_v))] sz) := by
  refine hg_ofW (cc := cX5_canRest) (maxL := 3) (ret := (some .boolean)) (own := RX5) (fun A => hgQi (dC, dI) u [(o_h, .inr (5, [.int o_players, .int o_bars, .ref o_price, .ref o_breath, .ref o_kind, .ref o_looks, .ref o_noise, .ref o_repeat, .ref o_now, .ref o_readPlayer, .ref o_readBar, .int o_readPlayers, .int o_readBars, .ref o_text, .int o_length, .int o_at, .int o_faultAt, .int o_acts, .int o_next, .ref o_row, .int o_heard, .ref o_heardOf, .ref o_heardBars, .ref o_heardPlays, .int o_hushWho, .int o_hushSum, .long o_seed, .ref o_isKept, .ref o_kept])), (o_now, .inl (cI, 32, .inl o_now_v)), (o_breath, .inl (cI, 6, .inl o_breath_v))] A) rfl (by decide) rfl (Nat.le_of_ble_eq_true rfl) ?_
  intro p e s m below meth c ls A hsz hx hb hr hml hown hts hlk hnm hK hN hA hP hD hS hl
  subst hsz
  have w1 := hts (.fieldLink RX5 28 "HatGoesRoundModel" "now" "[I") (List.mem_of_getElem? (i := 1) rfl)
  have hinX5 : ∀ w ∈ u_ws RX5 TX5 29, w ∈ wsX5_canRest := fun _ h => List.mem_cons_of_mem _ (List.mem_append_right _ h)
  have w2 := hts (.fieldLink RX5 13 "HatGoesRoundModel" "breath" "[I") (List.mem_of_getElem? (i := 2) rfl)
  have hl : lv_has ls 3 [(0, .ref o_h), (1, .int x0), (2, .int x1)] := hl
  unfold f_X5_canRest at hu
  refine lv_aload_n hx hb dX5_canRest_0 rfl (lv_at hl 0 rfl) ?_
  refine lv_iload_n hx hb dX5_canRest_1 rfl (lv_at hl 2 rfl) ?_
  obtain ⟨r1, er1, hu⟩ := lxb_o hu
  refine hg_ci (va_runV (As := [.int x1]) (rest := []) ⟨hx, hb, hml, hown, hts⟩ (c_X5_isPlayer l dC dI cI cZ cM _ o_h x1 o_players o_bars o_price o_breath o_kind o_looks o_noise o_repeat o_now o_readPlayer o_readBar o_readPlayers o_readBars o_text o_length o_at o_faultAt o_acts o_next o_row o_heard o_heardOf o_heardBars o_heardPlays o_hushWho o_hushSum o_seed o_isKept o_kept np enp (by omega) nb enb (by omega) r1 er1) (cwV 1 hts gX5_canRest_X5_isPlayer rfl rfl rfl (by decide +kernel) ⟨Nat.le_of_ble_eq_true rfl, Nat.le_of_ble_eq_true rfl⟩) (hgPreV (C := RX5) (T := TX5) (N := 29) (ci := 5) (q0 := 0) hP hD hK hN [0] rfl rfl rfl rfl) rfl rfl hl.1 rfl (lv_room (Nat.le_of_ble_eq_true rfl)) dX5_canRest_2 ⟨Nat.zero_le _, Nat.zero_le _⟩) hP hD hS hA (wr := [(o_now, .inl (cI, 32, .inl o_now_v)), (o_breath, .inl (cI, 6, .inl o_breath_v))]) (wf := [(o_h, .inr (5, [.int o_players, .int o_bars, .ref o_price, .ref o_breath, .ref o_kind, .ref o_looks, .ref o_noise, .ref o_repeat, .ref o_now, .ref o_readPlayer, .ref o_readBar, .int o_readPlayers, .int o_readBars, .ref o_text, .int o_length, .int o_at, .int o_faultAt, .int o_acts, .int o_next, .ref o_row, .int o_heard, .ref o_heardOf, .ref o_heardBars, .ref o_heardPlays, .int o_hushWho, .int o_hushSum, .long o_seed, .ref o_isKept, .ref o_kept])), (o_now, .inl (cI, 32, .inl o_now_v)), (o_breath, .inl (cI, 6, .inl o_breath_v))]) [0] [1, 2] [2, 0, 1] rfl rfl rfl (by decide) rfl rfl (fun H locs hP hD hS => ?_)
  refine lv_if_eq (tgt := 36) hx hb dX5_canRest_5 (by decide) (fun c_5 => ?_) (fun c_5 => ?_)
  · have hu := hu.trans (if_pos c_5)
    refine lv_iconst (v := 0) hx hb dX5_canRest_36 (by decide) ?_
    subst hu
    exact hg_rz hx hb hr hlk (by decide) rfl hP hD hS dX5_canRest_37
  · have hu := hu.trans (if_neg c_5)
    obtain ⟨jp, hjp, ejp⟩ := mP enp hnp er1 c_5
    refine lv_aload_n hx hb dX5_canRest_8 rfl (lv_at hl 0 rfl) ?_
    refine va_get (D := (dC, dI)) (ci := 5) (v := .ref o_now) (C := RX5) (T := TX5) (N := 29) hx hb hts hinX5 hown hK hP 0 rfl rfl 8 (by decide) w1 (fun _ h9 => h9) rfl dX5_canRest_9 ?_
    refine lv_bipush (v := 16) hx hb dX5_canRest_12 (by decide) ?_
    refine lv_iload_n hx hb dX5_canRest_14 rfl (lv_at hl 1 rfl) ?_
    refine lv_imul hx hb dX5_canRest_15 ?_
    refine lv_iload_n hx hb dX5_canRest_16 rfl (lv_at hl 2 rfl) ?_
    refine lv_iadd hx hb dX5_canRest_17 ?_
    refine va_iald hx hb hK hP 1 0 rfl rfl (n := 32) (f := o_now_v) (hg_in (n := ((16 * lv) + jp)) (N := 32) (nx_add (nx_mul (show (16 : Int32) = nI 16 from rfl) elv) ejp) (by omega) (by decide)) dX5_canRest_18 ?_
    refine lv_iconst (v := 2) hx hb dX5_canRest_19 (by decide) ?_
    refine lv_icmp_ne (tgt := 36) hx hb dX5_canRest_20 (by decide) (fun c_20 => ?_) (fun c_20 => ?_)
    · have hu := hu.trans (if_neg c_20)
      refine lv_iconst (v := 0) hx hb dX5_canRest_36 (by decide) ?_
      subst hu
      exact hg_rz hx hb hr hlk (by decide) rfl hP hD hS dX5_canRest_37
    · have hu := hu.trans (if_pos c_20)
      refine lv_aload_n hx hb dX5_canRest_23 rfl (lv_at hl 0 rfl) ?_
      refine va_get (D := (dC, dI)) (ci := 5) (v := .ref o_breath) (C := RX5) (T := TX5) (N := 29) hx hb hts hinX5 hown hK hP 0 rfl rfl 3 (by decide) w2 (fun _ h9 => h9) rfl dX5_canRest_24 ?_
      refine lv_iload_n hx hb dX5_canRest_27 rfl (lv_at hl 2 rfl) ?_
      refine va_iald hx hb hK hP 2 0 rfl rfl (n := 6) (f := o_breath_v) (hg_in (n := jp) (N := 6) ejp (by omega) (by decide)) dX5_canRest_28 ?_
      refine lv_if_le (tgt := 36) hx hb dX5_canRest_29 (by decide) (fun c_29 => ?_) (fun c_29 => ?_)
      · have hu := hu.trans (if_pos c_29)
        refine lv_iconst (v := 0) hx hb dX5_canRest_36 (by decide) ?_
        subst hu
        exact hg_rz hx hb hr hlk (by decide) rfl hP hD hS dX5_canRest_37
      · have hu := hu.trans (if_neg c_29)
        refine lv_iconst (v := 1) hx hb dX5_canRest_32 (by decide) ?_
        refine lv_goto (tgt := 37) hx hb dX5_canRest_33 (by decide) ?_
        subst hu
        exact hg_rz hx hb hr hlk (by decide) rfl hP hD hS dX5_canRest_37

set_option maxHeartbeats 4000000 in
set_option maxRecDepth 100000 in
theorem c_X5_restOn (l : Launch) (dC : Nat → ClassId) (dI : Nat → Nat → Nat) (cI cZ cM : ClassId) (sz : Nat) (o_h : Nat) (x0 : Int32) (x1 : Int32) (o_players : Int32) (o_bars : Int32) (o_price : Nat) (o_breath : Nat) (o_kind : Nat) (o_looks : Nat) (o_noise : Nat) (o_repeat : Nat) (o_now : Nat) (o_readPlayer : Nat) (o_readBar : Nat) (o_readPlayers : Int32) (o_readBars : Int32) (o_text : Nat) (o_length : Int32) (o_at : Int32) (o_faultAt : Int32) (o_acts : Int32) (o_next : Int32) (o_row : Nat) (o_heard : Int32) (o_heardOf : Nat) (o_heardBars : Nat) (o_heardPlays : Nat) (o_hushWho : Int32) (o_hushSum : Int32) (o_seed : Int64) (o_isKept : Nat) (o_kept : Nat) (o_now_v : Nat → Int32) (o_breath_v : Nat → Int32) (np : Nat) (enp : o_players = nI np) (hnp : np ≤ 6) (nb : Nat) (enb : o_bars = nI nb) (hnb : nb ≤ 8) (lv : Nat) (elv : x0 = nI lv) (hlv : lv < 2) (pv : Nat) (epv : x1 = nI pv) (hpv : pv < np) (hB : mB o_now_v) (u : (Nat → Int32)) (hu : u = f_X5_restOn x0 x1 o_now_v o_breath_v) : Met l yX5_restOn wsX5_restOn { frames := 0, cells := 0, slots := 0, locals := 0 } (hgPc [.ref o_h, .int x0, .int x1] (dC, dI) cI cZ cM [(o_h, .inr (5, [.int o_players, .int o_bars, .ref o_price, .ref o_breath, .ref o_kind, .ref o_looks, .ref o_noise, .ref o_repeat, .ref o_now, .ref o_readPlayer, .ref o_readBar, .int o_readPlayers, .int o_readBars, .ref o_text, .int o_length, .int o_at, .int o_faultAt, .int o_acts, .int o_next, .ref o_row, .int o_heard, .ref o_heardOf, .ref o_heardBars, .ref o_heardPlays, .int o_hushWho, .int o_hushSum, .long o_seed, .ref o_isKept, .ref o_kept])), (o_now, .inl (cI, 32, .inl o_now_v)), (o_breath, .inl (cI, 6, .inl o_breath_v))] sz) (hgQvE (dC, dI) [(o_h, .inr (5, [.int o_players, .int o_bars, .ref o_price, .ref o_breath, .ref o_kind, .ref o_looks, .ref o_noise, .ref o_repeat, .ref o_now, .ref o_readPlayer, .ref o_readBar, .int o_readPlayers, .int o_readBars, .ref o_text, .int o_length, .int o_at, .int o_faultAt, .int o_acts, .int o_next, .ref o_row, .int o_heard, .ref o_heardOf, .ref o_heardBars, .ref o_heardPlays, .int o_hushWho, .int o_hushSum, .long o_seed, .ref o_isKept, .ref o_kept])), (o_now, .inl (cI, 32, .inl u)), (o_breath, .inl (cI, 6, .inl o_breath_v))] (mB u) (va_A [(o_h, .inr (5, [.int o_players, .int o_bars, .ref o_price, .ref o_breath, .ref o_kind, .ref o_looks, .ref o_noise, .ref o_repeat, .ref o_now, .ref o_readPlayer, .ref o_readBar, .int o_readPlayers, .int o_readBars, .ref o_text, .int o_length, .int o_at, .int o_faultAt, .int o_acts, .int o_next, .ref o_row, .int o_heard, .ref o_heardOf, .ref o_heardBars, .ref o_heardPlays, .int o_hushWho, .int o_hushSum, .long o_seed, .ref o_isKept, .ref o_kept])), (o_now, .inl (cI, 32, .inl o_now_v)), (o_breath, .inl (cI, 6, .inl o_breath_v))] sz)) 0 0 (va_A [(o_h, .inr (5, [.int o_players, .int o_bars, .ref o_price, .ref o_breath, .ref o_kind, .ref o_looks, .ref o_noise, .ref o_repeat, .ref o_now, .ref o_readPlayer, .ref o_readBar, .int o_readPlayers, .int o_readBars, .ref o_text, .int o_length, .int o_at, .int o_faultAt, .int o_acts, .int o_next, .ref o_row, .int o_heard, .ref o_heardOf, .ref o_heardBars, .ref o_heardPlays, .int o_hushWho, .int o_hushSum, .long o_seed, .ref o_isKept, .ref o_kept])), (o_now, .inl (cI, 32, .inl o_now_v)), (o_breath, .inl (cI, 6, .inl o_breath_v))] sz) := by
  refine hg_ofW (cc := cX5_restOn) (maxL := 3) (ret := none) (own := RX5) (fun A => hgQvE (dC, dI) [(o_h, .inr (5, [.int o_players, .int o_bars, .ref o_price, .ref o_breath, .ref o_kind, .ref o_looks, .ref o_noise, .ref o_repeat, .ref o_now, .ref o_readPlayer, .ref o_readBar, .int o_readPlayers, .int o_readBars, .ref o_text, .int o_length, .int o_at, .int o_faultAt, .int o_acts, .int o_next, .ref o_row, .int o_heard, .ref o_heardOf, .ref o_heardBars, .ref o_heardPlays, .int o_hushWho, .int o_hushSum, .long o_seed, .ref o_isKept, .ref o_kept])), (o_now, .inl (cI, 32, .inl u)), (o_breath, .inl (cI, 6, .inl o_breath_v))] (mB u) A) rfl (by decide) rfl (Nat.le_of_ble_eq_true rfl) ?_
  intro p e s m below meth c ls A hsz hx hb hr hml hown hts hlk hnm hK hN hA hP hD hS hl
  subst hsz
  have w1 := hts (.fieldLink RX5 28 "HatGoesRoundModel" "now" "[I") (List.mem_of_getElem? (i := 1) rfl)
  have hinX5 : ∀ w ∈ u_ws RX5 TX5 29, w ∈ wsX5_restOn := fun _ h => List.mem_cons_of_mem _ (List.mem_append_right _ h)
  have w2 := hts (.fieldLink RX5 13 "HatGoesRoundModel" "breath" "[I") (List.mem_of_getElem? (i := 2) rfl)
  have hl : lv_has ls 3 [(0, .ref o_h), (1, .int x0), (2, .int x1)] := hl
  unfold f_X5_restOn at hu
  refine lv_aload_n hx hb dX5_restOn_0 rfl (lv_at hl 0 rfl) ?_
  refine va_get (D := (dC, dI)) (ci := 5) (v := .ref o_now) (C := RX5) (T := TX5) (N := 29) hx hb hts hinX5 hown hK hP 0 rfl rfl 8 (by decide) w1 (fun _ h9 => h9) rfl dX5_restOn_1 ?_
  refine lv_bipush (v := 16) hx hb dX5_restOn_4 (by decide) ?_
  refine lv_iload_n hx hb dX5_restOn_6 rfl (lv_at hl 1 rfl) ?_
  refine lv_imul hx hb dX5_restOn_7 ?_
  refine lv_iload_n hx hb dX5_restOn_8 rfl (lv_at hl 2 rfl) ?_
  refine lv_iadd hx hb dX5_restOn_9 ?_
  refine lv_iconst (v := 0) hx hb dX5_restOn_10 (by decide) ?_
  refine va_iast hx hb hK hP hD hS 1 0 rfl rfl (n := 32) (f := o_now_v) (hg_in (n := ((16 * lv) + pv)) (N := 32) (nx_add (nx_mul (show (16 : Int32) = nI 16 from rfl) elv) epv) (by omega) (by decide)) dX5_restOn_11 (fun H locs hP hD hS => ?_)
  have hP : va_P (dC, dI) vwCl [(o_h, .inr (5, [.int o_players, .int o_bars, .ref o_price, .ref o_breath, .ref o_kind, .ref o_looks, .ref o_noise, .ref o_repeat, .ref o_now, .ref o_readPlayer, .ref o_readBar, .int o_readPlayers, .int o_readBars, .ref o_text, .int o_length, .int o_at, .int o_faultAt, .int o_acts, .int o_next, .ref o_row, .int o_heard, .ref o_heardOf, .ref o_heardBars, .ref o_heardPlays, .int o_hushWho, .int o_hushSum, .long o_seed, .ref o_isKept, .ref o_kept])), (o_now, .inl (cI, 32, .inl (upd o_now_v (Int32.toNatClampNeg ((16 * x0) + x1)) 0))), (o_breath, .inl (cI, 6, .inl o_breath_v))] H := hP
  have hD : va_D A [(o_h, .inr (5, [.int o_players, .int o_bars, .ref o_price, .ref o_breath, .ref o_kind, .ref o_looks, .ref o_noise, .ref o_repeat, .ref o_now, .ref o_readPlayer, .ref o_readBar, .int o_readPlayers, .int o_readBars, .ref o_text, .int o_length, .int o_at, .int o_faultAt, .int o_acts, .int o_next, .ref o_row, .int o_heard, .ref o_heardOf, .ref o_heardBars, .ref o_heardPlays, .int o_hushWho, .int o_hushSum, .long o_seed, .ref o_isKept, .ref o_kept])), (o_now, .inl (cI, 32, .inl (upd o_now_v (Int32.toNatClampNeg ((16 * x0) + x1)) 0))), (o_breath, .inl (cI, 6, .inl o_breath_v))] := hD
  have hB1 : mB (upd o_now_v (Int32.toNatClampNeg ((16 * x0) + x1)) 0) := mB_upd (n := ((16 * lv) + pv)) hB (nx_add (nx_mul (show (16 : Int32) = nI 16 from rfl) elv) epv) (by omega) (fun q => absurd q (by omega))
  refine lv_aload_n hx hb dX5_restOn_12 rfl (lv_at hl 0 rfl) ?_
  refine va_get (D := (dC, dI)) (ci := 5) (v := .ref o_now) (C := RX5) (T := TX5) (N := 29) hx hb hts hinX5 hown hK hP 0 rfl rfl 8 (by decide) w1 (fun _ h9 => h9) rfl dX5_restOn_13 ?_
  refine lv_bipush (v := 16) hx hb dX5_restOn_16 (by decide) ?_
  refine lv_iload_n hx hb dX5_restOn_18 rfl (lv_at hl 1 rfl) ?_
  refine lv_imul hx hb dX5_restOn_19 ?_
  refine lv_bipush (v := 6) hx hb dX5_restOn_20 (by decide) ?_
  refine lv_iadd hx hb dX5_restOn_22 ?_
  refine lv_iload_n hx hb dX5_restOn_23 rfl (lv_at hl 2 rfl) ?_
  refine lv_iadd hx hb dX5_restOn_24 ?_
  refine lv_aload_n hx hb dX5_restOn_25 rfl (lv_at hl 0 rfl) ?_
  refine va_get (D := (dC, dI)) (ci := 5) (v := .ref o_breath) (C := RX5) (T := TX5) (N := 29) hx hb hts hinX5 hown hK hP 0 rfl rfl 3 (by decide) w2 (fun _ h9 => h9) rfl dX5_restOn_26 ?_
  refine lv_iload_n hx hb dX5_restOn_29 rfl (lv_at hl 2 rfl) ?_
  refine va_iald hx hb hK hP 2 0 rfl rfl (n := 6) (f := o_breath_v) (hg_in (n := pv) (N := 6) epv (by omega) (by decide)) dX5_restOn_30 ?_
  obtain ⟨y2, ey2, hu⟩ := lxb_o hu
  refine lv_topi (fun z ez => ?_)
  obtain rfl : y2 = z := ey2.trans ez.symm
  refine va_iast hx hb hK hP hD hS 1 0 rfl rfl (n := 32) (f := (upd o_now_v (Int32.toNatClampNeg ((16 * x0) + x1)) 0)) (hg_in (n := (((16 * lv) + 6) + pv)) (N := 32) (nx_add (nx_add (nx_mul (show (16 : Int32) = nI 16 from rfl) elv) (show (6 : Int32) = nI 6 from rfl)) epv) (by omega) (by decide)) dX5_restOn_31 (fun H locs hP hD hS => ?_)
  have hP : va_P (dC, dI) vwCl [(o_h, .inr (5, [.int o_players, .int o_bars, .ref o_price, .ref o_breath, .ref o_kind, .ref o_looks, .ref o_noise, .ref o_repeat, .ref o_now, .ref o_readPlayer, .ref o_readBar, .int o_readPlayers, .int o_readBars, .ref o_text, .int o_length, .int o_at, .int o_faultAt, .int o_acts, .int o_next, .ref o_row, .int o_heard, .ref o_heardOf, .ref o_heardBars, .ref o_heardPlays, .int o_hushWho, .int o_hushSum, .long o_seed, .ref o_isKept, .ref o_kept])), (o_now, .inl (cI, 32, .inl (upd (upd o_now_v (Int32.toNatClampNeg ((16 * x0) + x1)) 0) (Int32.toNatClampNeg (((16 * x0) + 6) + x1)) y2))), (o_breath, .inl (cI, 6, .inl o_breath_v))] H := hP
  have hD : va_D A [(o_h, .inr (5, [.int o_players, .int o_bars, .ref o_price, .ref o_breath, .ref o_kind, .ref o_looks, .ref o_noise, .ref o_repeat, .ref o_now, .ref o_readPlayer, .ref o_readBar, .int o_readPlayers, .int o_readBars, .ref o_text, .int o_length, .int o_at, .int o_faultAt, .int o_acts, .int o_next, .ref o_row, .int o_heard, .ref o_heardOf, .ref o_heardBars, .ref o_heardPlays, .int o_hushWho, .int o_hushSum, .long o_seed, .ref o_isKept, .ref o_kept])), (o_now, .inl (cI, 32, .inl (upd (upd o_now_v (Int32.toNatClampNeg ((16 * x0) + x1)) 0) (Int32.toNatClampNeg (((16 * x0) + 6) + x1)) y2))), (o_breath, .inl (cI, 6, .inl o_breath_v))] := hD
  have hB3 : mB (upd (upd o_now_v (Int32.toNatClampNeg ((16 * x0) + x1)) 0) (Int32.toNatClampNeg (((16 * x0) + 6) + x1)) y2) := mB_upd (n := (((16 * lv) + 6) + pv)) hB1 (nx_add (nx_add (nx_mul (show (16 : Int32) = nI 16 from rfl) elv) (show (6 : Int32) = nI 6 from rfl)) epv) (by omega) (fun q => absurd q (by omega))
  subst hu
  exact hg_rvE hx hb hr hlk hB3 hP hD hS dX5_restOn_32

set_option maxHeartbeats 4000000 in
set_option maxRecDepth 100000 in
theorem c_X5_rest (l : Launch) (dC : Nat → ClassId) (dI : Nat → Nat → Nat) (cI cZ cM : ClassId) (sz : Nat) (o_h : Nat) (x0 : Int32) (o_players : Int32) (o_bars : Int32) (o_price : Nat) (o_breath : Nat) (o_kind : Nat) (o_looks : Nat) (o_noise : Nat) (o_repeat : Nat) (o_now : Nat) (o_readPlayer : Nat) (o_readBar : Nat) (o_readPlayers : Int32) (o_readBars : Int32) (o_text : Nat) (o_length : Int32) (o_at : Int32) (o_faultAt : Int32) (o_acts : Int32) (o_next : Int32) (o_row : Nat) (o_heard : Int32) (o_heardOf : Nat) (o_heardBars : Nat) (o_heardPlays : Nat) (o_hushWho : Int32) (o_hushSum : Int32) (o_seed : Int64) (o_isKept : Nat) (o_kept : Nat) (o_now_v : Nat → Int32) (o_breath_v : Nat → Int32) (o_row_v : Nat → Int32) (np : Nat) (enp : o_players = nI np) (hnp : np ≤ 6) (nb : Nat) (enb : o_bars = nI nb) (hnb : nb ≤ 8) (nx : Nat) (enx : o_next = nI nx) (hnx : nx < 14) (hB : mB o_now_v) (u : Int32 × Int32 × Int32 × (Nat → Int32) × (Nat → Int32)) (hu : u = f_X5_rest x0 o_players o_acts o_next o_now_v o_breath_v o_row_v) : Met l yX5_rest wsX5_rest { frames := 3, cells := 0, slots := 0, locals := 68 } (hgPc [.ref o_h, .int x0] (dC, dI) cI cZ cM [(o_h, .inr (5, [.int o_players, .int o_bars, .ref o_price, .ref o_breath, .ref o_kind, .ref o_looks, .ref o_noise, .ref o_repeat, .ref o_now, .ref o_readPlayer, .ref o_readBar, .int o_readPlayers, .int o_readBars, .ref o_text, .int o_length, .int o_at, .int o_faultAt, .int o_acts, .int o_next, .ref o_row, .int o_heard, .ref o_heardOf, .ref o_heardBars, .ref o_heardPlays, .int o_hushWho, .int o_hushSum, .long o_seed, .ref o_isKept, .ref o_kept])), (o_now, .inl (cI, 32, .inl o_now_v)), (o_breath, .inl (cI, 6, .inl o_breath_v)), (o_row, .inl (cI, 224, .inl o_row_v))] sz) (hgQi (dC, dI) u.1 [(o_h, .inr (5, [.int o_players, .int o_bars, .ref o_price, .ref o_breath, .ref o_kind, .ref o_looks, .ref o_noise, .ref o_repeat, .ref o_now, .ref o_readPlayer, .ref o_readBar, .int o_readPlayers, .int o_readBars, .ref o_text, .int o_length, .int o_at, .int o_faultAt, .int u.2.1, .int u.2.2.1, .ref o_row, .int o_heard, .ref o_heardOf, .ref o_heardBars, .ref o_heardPlays, .int o_hushWho, .int o_hushSum, .long o_seed, .ref o_isKept, .ref o_kept])), (o_now, .inl (cI, 32, .inl u.2.2.2.1)), (o_breath, .inl (cI, 6, .inl o_breath_v)), (o_row, .inl (cI, 224, .inl u.2.2.2.2))] (va_A [(o_h, .inr (5, [.int o_players, .int o_bars, .ref o_price, .ref o_breath, .ref o_kind, .ref o_looks, .ref o_noise, .ref o_repeat, .ref o_now, .ref o_readPlayer, .ref o_readBar, .int o_readPlayers, .int o_readBars, .ref o_text, .int o_length, .int o_at, .int o_faultAt, .int o_acts, .int o_next, .ref o_row, .int o_heard, .ref o_heardOf, .ref o_heardBars, .ref o_heardPlays, .int o_hushWho, .int o_hushSum, .long o_seed, .ref o_isKept, .ref o_kept])), (o_now, .inl (cI, 32, .inl o_now_v)), (o_breath, .inl (cI, 6, .inl o_breath_v)), (o_row, .inl (cI, 224, .inl o_row_v))] sz)) 0 0 (va_A [(o_h, .inr (5, [.int o_players, .int o_bars, .ref o_price, .ref o_breath, .ref o_kind, .ref o_looks, .ref o_noise, .ref o_repeat, .ref o_now, .ref o_readPlayer, .ref o_readBar, .int o_readPlayers, .int o_readBars, .ref o_text, .int o_length, .int o_at, .int o_faultAt, .int o_acts, .int o_next, .ref o_row, .int o_heard, .ref o_heardOf, .ref o_heardBars, .ref o_heardPlays, .int o_hushWho, .int o_hushSum, .long o_seed, .ref o_isKept, .ref o_kept])), (o_now, .inl (cI, 32, .inl o_now_v)), (o_breath, .inl (cI, 6, .inl o_breath_v)), (o_row, .inl (cI, 224, .inl o_row_v))] sz) := by
  refine hg_ofW (cc := cX5_rest) (maxL := 2) (ret := (some .int)) (own := RX5) (fun A => hgQi (dC, dI) u.1 [(o_h, .inr (5, [.int o_players, .int o_bars, .ref o_price, .ref o_breath, .ref o_kind, .ref o_looks, .ref o_noise, .ref o_repeat, .ref o_now, .ref o_readPlayer, .ref o_readBar, .int o_readPlayers, .int o_readBars, .ref o_text, .int o_length, .int o_at, .int o_faultAt, .int u.2.1, .int u.2.2.1, .ref o_row, .int o_heard, .ref o_heardOf, .ref o_heardBars, .ref o_heardPlays, .int o_hushWho, .int o_hushSum, .long o_seed, .ref o_isKept, .ref o_kept])), (o_now, .inl (cI, 32, .inl u.2.2.2.1)), (o_breath, .inl (cI, 6, .inl o_breath_v)), (o_row, .inl (cI, 224, .inl u.2.2.2.2))] A) rfl (by decide) rfl (Nat.le_of_ble_eq_true rfl) ?_
  intro p e s m below meth c ls A hsz hx hb hr hml hown hts hlk hnm hK hN hA hP hD hS hl
  subst hsz
  have w1 := hts (.fieldLink RX5 28 "HatGoesRoundModel" "now" "[I") (List.mem_of_getElem? (i := 1) rfl)
  have hinX5 : ∀ w ∈ u_ws RX5 TX5 29, w ∈ wsX5_rest := fun _ h => List.mem_cons_of_mem _ (List.mem_append_right _ h)
  have hl : lv_has ls 2 [(0, .ref o_h), (1, .int x0)] := hl
  unfold f_X5_rest at hu
  refine lv_aload_n hx hb dX5_rest_0 rfl (lv_at hl 0 rfl) ?_
  refine lv_iload_n hx hb dX5_rest_1 rfl (lv_at hl 1 rfl) ?_
  obtain ⟨r1, er1, hu⟩ := lxb_o hu
  refine hg_ci (va_runV (As := [.int x0]) (rest := []) ⟨hx, hb, hml, hown, hts⟩ (c_X5_isPlayer l dC dI cI cZ cM _ o_h x0 o_players o_bars o_price o_breath o_kind o_looks o_noise o_repeat o_now o_readPlayer o_readBar o_readPlayers o_readBars o_text o_length o_at o_faultAt o_acts o_next o_row o_heard o_heardOf o_heardBars o_heardPlays o_hushWho o_hushSum o_seed o_isKept o_kept np enp (by omega) nb enb (by omega) r1 er1) (cwV 1 hts gX5_rest_X5_isPlayer rfl rfl rfl (by decide +kernel) ⟨Nat.le_of_ble_eq_true rfl, Nat.le_of_ble_eq_true rfl⟩) (hgPreV (C := RX5) (T := TX5) (N := 29) (ci := 5) (q0 := 0) hP hD hK hN [0] rfl rfl rfl rfl) rfl rfl hl.1 rfl (lv_room (Nat.le_of_ble_eq_true rfl)) dX5_rest_2 ⟨Nat.zero_le _, Nat.zero_le _⟩) hP hD hS hA (wr := [(o_now, .inl (cI, 32, .inl o_now_v)), (o_breath, .inl (cI, 6, .inl o_breath_v)), (o_row, .inl (cI, 224, .inl o_row_v))]) (wf := [(o_h, .inr (5, [.int o_players, .int o_bars, .ref o_price, .ref o_breath, .ref o_kind, .ref o_looks, .ref o_noise, .ref o_repeat, .ref o_now, .ref o_readPlayer, .ref o_readBar, .int o_readPlayers, .int o_readBars, .ref o_text, .int o_length, .int o_at, .int o_faultAt, .int o_acts, .int o_next, .ref o_row, .int o_heard, .ref o_heardOf, .ref o_heardBars, .ref o_heardPlays, .int o_hushWho, .int o_hushSum, .long o_seed, .ref o_isKept, .ref o_kept])), (o_now, .inl (cI, 32, .inl o_now_v)), (o_breath, .inl (cI, 6, .inl o_breath_v)), (o_row, .inl (cI, 224, .inl o_row_v))]) [0] [1, 2, 3] [3, 0, 1, 2] rfl rfl rfl (by decide) rfl rfl (fun H locs hP hD hS => ?_)
  refine lv_if_ne (tgt := 10) hx hb dX5_rest_5 (by decide) (fun c_5 => ?_) (fun c_5 => ?_)
  · have hu := hu.trans (if_neg c_5)
    obtain ⟨jp, hjp, ejp⟩ := mP enp hnp er1 c_5
    refine lv_aload_n hx hb dX5_rest_10 rfl (lv_at hl 0 rfl) ?_
    refine lv_iconst (v := 0) hx hb dX5_rest_11 (by decide) ?_
    refine lv_iload_n hx hb dX5_rest_12 rfl (lv_at hl 1 rfl) ?_
    obtain ⟨r2, er2, hu⟩ := lxb_o hu
    refine hg_ci (va_runV (As := [.int 0, .int x0]) (rest := []) ⟨hx, hb, hml, hown, hts⟩ (c_X5_canRest l dC dI cI cZ cM _ o_h 0 x0 o_players o_bars o_price o_breath o_kind o_looks o_noise o_repeat o_now o_readPlayer o_readBar o_readPlayers o_readBars o_text o_length o_at o_faultAt o_acts o_next o_row o_heard o_heardOf o_heardBars o_heardPlays o_hushWho o_hushSum o_seed o_isKept o_kept o_now_v o_breath_v np enp (by omega) nb enb (by omega) 0 (show (0 : Int32) = nI 0 from rfl) (by omega) r2 er2) (cwV 2 hts gX5_rest_X5_canRest rfl rfl rfl (by decide +kernel) ⟨Nat.le_of_ble_eq_true rfl, Nat.le_of_ble_eq_true rfl⟩) (hgPreV (C := RX5) (T := TX5) (N := 29) (ci := 5) (q0 := 0) hP hD hK hN [0, 1, 2] rfl rfl rfl rfl) rfl rfl hl.1 rfl (lv_room (Nat.le_of_ble_eq_true rfl)) dX5_rest_13 ⟨Nat.zero_le _, Nat.zero_le _⟩) hP hD hS hA (wr := [(o_row, .inl (cI, 224, .inl o_row_v))]) (wf := [(o_h, .inr (5, [.int o_players, .int o_bars, .ref o_price, .ref o_breath, .ref o_kind, .ref o_looks, .ref o_noise, .ref o_repeat, .ref o_now, .ref o_readPlayer, .ref o_readBar, .int o_readPlayers, .int o_readBars, .ref o_text, .int o_length, .int o_at, .int o_faultAt, .int o_acts, .int o_next, .ref o_row, .int o_heard, .ref o_heardOf, .ref o_heardBars, .ref o_heardPlays, .int o_hushWho, .int o_hushSum, .long o_seed, .ref o_isKept, .ref o_kept])), (o_now, .inl (cI, 32, .inl o_now_v)), (o_breath, .inl (cI, 6, .inl o_breath_v)), (o_row, .inl (cI, 224, .inl o_row_v))]) [0, 1, 2] [3] [1, 2, 3, 0] rfl rfl rfl (by decide) rfl rfl (fun H locs hP hD hS => ?_)
    refine lv_if_ne (tgt := 22) hx hb dX5_rest_16 (by decide) (fun c_16 => ?_) (fun c_16 => ?_)
    · have hu := hu.trans (if_neg c_16)
      refine lv_aload_n hx hb dX5_rest_22 rfl (lv_at hl 0 rfl) ?_
      obtain ⟨r3, er3, hu⟩ := lxb_o hu
      refine hg_cv (va_runV (As := []) (rest := []) ⟨hx, hb, hml, hown, hts⟩ (c_X5_keepAct l dC dI cI cZ cM _ o_h o_players o_bars o_price o_breath o_kind o_looks o_noise o_repeat o_now o_readPlayer o_readBar o_readPlayers o_readBars o_text o_length o_at o_faultAt o_acts o_next o_row o_heard o_heardOf o_heardBars o_heardPlays o_hushWho o_hushSum o_seed o_isKept o_kept o_now_v o_row_v np enp (by omega) nb enb (by omega) nx enx (by omega) r3 er3) (cwV 0 hts gX5_rest_X5_keepAct rfl rfl rfl (by decide +kernel) ⟨Nat.le_of_ble_eq_true rfl, Nat.le_of_ble_eq_true rfl⟩) (hgPreV (C := RX5) (T := TX5) (N := 29) (ci := 5) (q0 := 0) hP hD hK hN [0, 1, 3] rfl rfl rfl rfl) rfl rfl hl.1 rfl (lv_room (Nat.le_of_ble_eq_true rfl)) dX5_rest_23 ⟨Nat.zero_le _, Nat.zero_le _⟩) hP hD hS hA (wr := [(o_breath, .inl (cI, 6, .inl o_breath_v))]) (wf := [(o_h, .inr (5, [.int o_players, .int o_bars, .ref o_price, .ref o_breath, .ref o_kind, .ref o_looks, .ref o_noise, .ref o_repeat, .ref o_now, .ref o_readPlayer, .ref o_readBar, .int o_readPlayers, .int o_readBars, .ref o_text, .int o_length, .int o_at, .int o_faultAt, .int r3.1, .int r3.2.1, .ref o_row, .int o_heard, .ref o_heardOf, .ref o_heardBars, .ref o_heardPlays, .int o_hushWho, .int o_hushSum, .long o_seed, .ref o_isKept, .ref o_kept])), (o_now, .inl (cI, 32, .inl o_now_v)), (o_breath, .inl (cI, 6, .inl o_breath_v)), (o_row, .inl (cI, 224, .inl r3.2.2))]) [0, 1, 3] [2] [1, 2, 0, 3] rfl rfl rfl (by decide) rfl rfl (fun H locs hP hD hS => ?_)
      refine lv_aload_n hx hb dX5_rest_26 rfl (lv_at hl 0 rfl) ?_
      refine lv_iconst (v := 0) hx hb dX5_rest_27 (by decide) ?_
      refine lv_iload_n hx hb dX5_rest_28 rfl (lv_at hl 1 rfl) ?_
      obtain ⟨r4, er4, hu⟩ := lxb_o hu
      refine hg_cvE (va_runV (As := [.int 0, .int x0]) (rest := []) ⟨hx, hb, hml, hown, hts⟩ (c_X5_restOn l dC dI cI cZ cM _ o_h 0 x0 o_players o_bars o_price o_breath o_kind o_looks o_noise o_repeat o_now o_readPlayer o_readBar o_readPlayers o_readBars o_text o_length o_at o_faultAt r3.1 r3.2.1 o_row o_heard o_heardOf o_heardBars o_heardPlays o_hushWho o_hushSum o_seed o_isKept o_kept o_now_v o_breath_v np enp (by omega) nb enb (by omega) 0 (show (0 : Int32) = nI 0 from rfl) (by omega) jp ejp (by omega) hB r4 er4) (cwV 2 hts gX5_rest_X5_restOn rfl rfl rfl (by decide +kernel) ⟨Nat.le_of_ble_eq_true rfl, Nat.le_of_ble_eq_true rfl⟩) (hgPreV (C := RX5) (T := TX5) (N := 29) (ci := 5) (q0 := 0) hP hD hK hN [0, 1, 2] rfl rfl rfl rfl) rfl rfl hl.1 rfl (lv_room (Nat.le_of_ble_eq_true rfl)) dX5_rest_29 ⟨Nat.zero_le _, Nat.zero_le _⟩) hP hD hS hA (wr := [(o_row, .inl (cI, 224, .inl r3.2.2))]) (wf := [(o_h, .inr (5, [.int o_players, .int o_bars, .ref o_price, .ref o_breath, .ref o_kind, .ref o_looks, .ref o_noise, .ref o_repeat, .ref o_now, .ref o_readPlayer, .ref o_readBar, .int o_readPlayers, .int o_readBars, .ref o_text, .int o_length, .int o_at, .int o_faultAt, .int r3.1, .int r3.2.1, .ref o_row, .int o_heard, .ref o_heardOf, .ref o_heardBars, .ref o_heardPlays, .int o_hushWho, .int o_hushSum, .long o_seed, .ref o_isKept, .ref o_kept])), (o_now, .inl (cI, 32, .inl r4)), (o_breath, .inl (cI, 6, .inl o_breath_v)), (o_row, .inl (cI, 224, .inl r3.2.2))]) [0, 1, 2] [3] [1, 2, 3, 0] rfl rfl rfl (by decide) rfl rfl (fun hB5 H locs hP hD hS => ?_)
      refine lv_aload_n hx hb dX5_rest_32 rfl (lv_at hl 0 rfl) ?_
      refine va_get (D := (dC, dI)) (ci := 5) (v := .ref o_now) (C := RX5) (T := TX5) (N := 29) hx hb hts hinX5 hown hK hP 0 rfl rfl 8 (by decide) w1 (fun _ h9 => h9) rfl dX5_rest_33 ?_
      refine lv_bipush (v := 6) hx hb dX5_rest_36 (by decide) ?_
      refine lv_iload_n hx hb dX5_rest_38 rfl (lv_at hl 1 rfl) ?_
      refine lv_iadd hx hb dX5_rest_39 ?_
      refine va_iald hx hb hK hP 1 0 rfl rfl (n := 32) (f := r4) (hg_in (n := (6 + jp)) (N := 32) (nx_add (show (6 : Int32) = nI 6 from rfl) ejp) (by omega) (by decide)) dX5_rest_40 ?_
      subst hu
      exact hg_ri hx hb hr hlk rfl hP hD hS dX5_rest_41
    · have hu := hu.trans (if_pos c_16)
      refine lv_bipush (v := (-3)) hx hb dX5_rest_19 (by decide) ?_
      subst hu
      exact hg_ri hx hb hr hlk rfl hP hD hS dX5_rest_21
  · have hu := hu.trans (if_pos c_5)
    refine lv_iconst (v := (-1)) hx hb dX5_rest_8 (by decide) ?_
    subst hu
    exact hg_ri hx hb hr hlk rfl hP hD hS dX5_rest_9

set_option maxHeartbeats 4000000 in
set_option maxRecDepth 100000 in
theorem c_X5_beginOn (l : Launch) (dC : Nat → ClassId) (dI : Nat → Nat → Nat) (cI cZ cM : ClassId) (sz : Nat) (o_h : Nat) (x0 : Int32) (o_players : Int32) (o_bars : Int32) (o_price : Nat) (o_breath : Nat) (o_kind : Nat) (o_looks : Nat) (o_noise : Nat) (o_repeat : Nat) (o_now : Nat) (o_readPlayer : Nat) (o_readBar : Nat) (o_readPlayers : Int32) (o_readBars : Int32) (o_text : Nat) (o_length : Int32) (o_at : Int32) (o_faultAt : Int32) (o_acts : Int32) (o_next : Int32) (o_row : Nat) (o_heard : Int32) (o_heardOf : Nat) (o_heardBars : Nat) (o_heardPlays : Nat) (o_hushWho : Int32) (o_hushSum : Int32) (o_seed : Int64) (o_isKept : Nat) (o_kept : Nat) (o_now_v : Nat → Int32) (np : Nat) (enp : o_players = nI np) (hnp : np ≤ 6) (nb : Nat) (enb : o_bars = nI nb) (hnb : nb ≤ 8) (lv : Nat) (elv : x0 = nI lv) (hlv : lv < 2) (hB : mB o_now_v) (u : (Nat → Int32)) (hu : u = f_X5_beginOn x0 o_now_v) : Met l yX5_beginOn wsX5_beginOn { frames := 0, cells := 0, slots := 0, locals := 0 } (hgPc [.ref o_h, .int x0] (dC, dI) cI cZ cM [(o_h, .inr (5, [.int o_players, .int o_bars, .ref o_price, .ref o_breath, .ref o_kind, .ref o_looks, .ref o_noise, .ref o_repeat, .ref o_now, .ref o_readPlayer, .ref o_readBar, .int o_readPlayers, .int o_readBars, .ref o_text, .int o_length, .int o_at, .int o_faultAt, .int o_acts, .int o_next, .ref o_row, .int o_heard, .ref o_heardOf, .ref o_heardBars, .ref o_heardPlays, .int o_hushWho, .int o_hushSum, .long o_seed, .ref o_isKept, .ref o_kept])), (o_now, .inl (cI, 32, .inl o_now_v))] sz) (hgQvE (dC, dI) [(o_h, .inr (5, [.int o_players, .int o_bars, .ref o_price, .ref o_breath, .ref o_kind, .ref o_looks, .ref o_noise, .ref o_repeat, .ref o_now, .ref o_readPlayer, .ref o_readBar, .int o_readPlayers, .int o_readBars, .ref o_text, .int o_length, .int o_at, .int o_faultAt, .int o_acts, .int o_next, .ref o_row, .int o_heard, .ref o_heardOf, .ref o_heardBars, .ref o_heardPlays, .int o_hushWho, .int o_hushSum, .long o_seed, .ref o_isKept, .ref o_kept])), (o_now, .inl (cI, 32, .inl u))] (mB u) (va_A [(o_h, .inr (5, [.int o_players, .int o_bars, .ref o_price, .ref o_breath, .ref o_kind, .ref o_looks, .ref o_noise, .ref o_repeat, .ref o_now, .ref o_readPlayer, .ref o_readBar, .int o_readPlayers, .int o_readBars, .ref o_text, .int o_length, .int o_at, .int o_faultAt, .int o_acts, .int o_next, .ref o_row, .int o_heard, .ref o_heardOf, .ref o_heardBars, .ref o_heardPlays, .int o_hushWho, .int o_hushSum, .long o_seed, .ref o_isKept, .ref o_kept])), (o_now, .inl (cI, 32, .inl o_now_v))] sz)) 0 0 (va_A [(o_h, .inr (5, [.int o_players, .int o_bars, .ref o_price, .ref o_breath, .ref o_kind, .ref o_looks, .ref o_noise, .ref o_repeat, .ref o_now, .ref o_readPlayer, .ref o_readBar, .int o_readPlayers, .int o_readBars, .ref o_text, .int o_length, .int o_at, .int o_faultAt, .int o_acts, .int o_next, .ref o_row, .int o_heard, .ref o_heardOf, .ref o_heardBars, .ref o_heardPlays, .int o_hushWho, .int o_hushSum, .long o_seed, .ref o_isKept, .ref o_kept])), (o_now, .inl (cI, 32, .inl o_now_v))] sz) := by
  refine hg_ofW (cc := cX5_beginOn) (maxL := 2) (ret := none) (own := RX5) (fun A => hgQvE (dC, dI) [(o_h, .inr (5, [.int o_players, .int o_bars, .ref o_price, .ref o_breath, .ref o_kind, .ref o_looks, .ref o_noise, .ref o_repeat, .ref o_now, .ref o_readPlayer, .ref o_readBar, .int o_readPlayers, .int o_readBars, .ref o_text, .int o_length, .int o_at, .int o_faultAt, .int o_acts, .int o_next, .ref o_row, .int o_heard, .ref o_heardOf, .ref o_heardBars, .ref o_heardPlays, .int o_hushWho, .int o_hushSum, .long o_seed, .ref o_isKept, .ref o_kept])), (o_now, .inl (cI, 32, .inl u))] (mB u) A) rfl (by decide) rfl (Nat.le_of_ble_eq_true rfl) ?_
  intro p e s m below meth c ls A hsz hx hb hr hml hown hts hlk hnm hK hN hA hP hD hS hl
  subst hsz
  have w1 := hts (.fieldLink RX5 28 "HatGoesRoundModel" "now" "[I") (List.mem_of_getElem? (i := 1) rfl)
  have hinX5 : ∀ w ∈ u_ws RX5 TX5 29, w ∈ wsX5_beginOn := fun _ h => List.mem_cons_of_mem _ (List.mem_append_right _ h)
  have hl : lv_has ls 2 [(0, .ref o_h), (1, .int x0)] := hl
  unfold f_X5_beginOn at hu
  refine lv_aload_n hx hb dX5_beginOn_0 rfl (lv_at hl 0 rfl) ?_
  refine va_get (D := (dC, dI)) (ci := 5) (v := .ref o_now) (C := RX5) (T := TX5) (N := 29) hx hb hts hinX5 hown hK hP 0 rfl rfl 8 (by decide) w1 (fun _ h9 => h9) rfl dX5_beginOn_1 ?_
  refine lv_bipush (v := 16) hx hb dX5_beginOn_4 (by decide) ?_
  refine lv_iload_n hx hb dX5_beginOn_6 rfl (lv_at hl 1 rfl) ?_
  refine lv_imul hx hb dX5_beginOn_7 ?_
  refine lv_bipush (v := 12) hx hb dX5_beginOn_8 (by decide) ?_
  refine lv_iadd hx hb dX5_beginOn_10 ?_
  refine lv_iconst (v := 0) hx hb dX5_beginOn_11 (by decide) ?_
  refine va_iast hx hb hK hP hD hS 1 0 rfl rfl (n := 32) (f := o_now_v) (hg_in (n := ((16 * lv) + 12)) (N := 32) (nx_add (nx_mul (show (16 : Int32) = nI 16 from rfl) elv) (show (12 : Int32) = nI 12 from rfl)) (by omega) (by decide)) dX5_beginOn_12 (fun H locs hP hD hS => ?_)
  have hP : va_P (dC, dI) vwCl [(o_h, .inr (5, [.int o_players, .int o_bars, .ref o_price, .ref o_breath, .ref o_kind, .ref o_looks, .ref o_noise, .ref o_repeat, .ref o_now, .ref o_readPlayer, .ref o_readBar, .int o_readPlayers, .int o_readBars, .ref o_text, .int o_length, .int o_at, .int o_faultAt, .int o_acts, .int o_next, .ref o_row, .int o_heard, .ref o_heardOf, .ref o_heardBars, .ref o_heardPlays, .int o_hushWho, .int o_hushSum, .long o_seed, .ref o_isKept, .ref o_kept])), (o_now, .inl (cI, 32, .inl (upd o_now_v (Int32.toNatClampNeg ((16 * x0) + 12)) 0)))] H := hP
  have hD : va_D A [(o_h, .inr (5, [.int o_players, .int o_bars, .ref o_price, .ref o_breath, .ref o_kind, .ref o_looks, .ref o_noise, .ref o_repeat, .ref o_now, .ref o_readPlayer, .ref o_readBar, .int o_readPlayers, .int o_readBars, .ref o_text, .int o_length, .int o_at, .int o_faultAt, .int o_acts, .int o_next, .ref o_row, .int o_heard, .ref o_heardOf, .ref o_heardBars, .ref o_heardPlays, .int o_hushWho, .int o_hushSum, .long o_seed, .ref o_isKept, .ref o_kept])), (o_now, .inl (cI, 32, .inl (upd o_now_v (Int32.toNatClampNeg ((16 * x0) + 12)) 0)))] := hD
  have hB1 : mB (upd o_now_v (Int32.toNatClampNeg ((16 * x0) + 12)) 0) := mB_upd (n := ((16 * lv) + 12)) hB (nx_add (nx_mul (show (16 : Int32) = nI 16 from rfl) elv) (show (12 : Int32) = nI 12 from rfl)) (by omega) (fun _ => by decide)
  refine lv_aload_n hx hb dX5_beginOn_13 rfl (lv_at hl 0 rfl) ?_
  refine va_get (D := (dC, dI)) (ci := 5) (v := .ref o_now) (C := RX5) (T := TX5) (N := 29) hx hb hts hinX5 hown hK hP 0 rfl rfl 8 (by decide) w1 (fun _ h9 => h9) rfl dX5_beginOn_14 ?_
  refine lv_bipush (v := 16) hx hb dX5_beginOn_17 (by decide) ?_
  refine lv_iload_n hx hb dX5_beginOn_19 rfl (lv_at hl 1 rfl) ?_
  refine lv_imul hx hb dX5_beginOn_20 ?_
  refine lv_bipush (v := 13) hx hb dX5_beginOn_21 (by decide) ?_
  refine lv_iadd hx hb dX5_beginOn_23 ?_
  refine lv_iconst (v := 0) hx hb dX5_beginOn_24 (by decide) ?_
  refine va_iast hx hb hK hP hD hS 1 0 rfl rfl (n := 32) (f := (upd o_now_v (Int32.toNatClampNeg ((16 * x0) + 12)) 0)) (hg_in (n := ((16 * lv) + 13)) (N := 32) (nx_add (nx_mul (show (16 : Int32) = nI 16 from rfl) elv) (show (13 : Int32) = nI 13 from rfl)) (by omega) (by decide)) dX5_beginOn_25 (fun H locs hP hD hS => ?_)
  have hP : va_P (dC, dI) vwCl [(o_h, .inr (5, [.int o_players, .int o_bars, .ref o_price, .ref o_breath, .ref o_kind, .ref o_looks, .ref o_noise, .ref o_repeat, .ref o_now, .ref o_readPlayer, .ref o_readBar, .int o_readPlayers, .int o_readBars, .ref o_text, .int o_length, .int o_at, .int o_faultAt, .int o_acts, .int o_next, .ref o_row, .int o_heard, .ref o_heardOf, .ref o_heardBars, .ref o_heardPlays, .int o_hushWho, .int o_hushSum, .long o_seed, .ref o_isKept, .ref o_kept])), (o_now, .inl (cI, 32, .inl (upd (upd o_now_v (Int32.toNatClampNeg ((16 * x0) + 12)) 0) (Int32.toNatClampNeg ((16 * x0) + 13)) 0)))] H := hP
  have hD : va_D A [(o_h, .inr (5, [.int o_players, .int o_bars, .ref o_price, .ref o_breath, .ref o_kind, .ref o_looks, .ref o_noise, .ref o_repeat, .ref o_now, .ref o_readPlayer, .ref o_readBar, .int o_readPlayers, .int o_readBars, .ref o_text, .int o_length, .int o_at, .int o_faultAt, .int o_acts, .int o_next, .ref o_row, .int o_heard, .ref o_heardOf, .ref o_heardBars, .ref o_heardPlays, .int o_hushWho, .int o_hushSum, .long o_seed, .ref o_isKept, .ref o_kept])), (o_now, .inl (cI, 32, .inl (upd (upd o_now_v (Int32.toNatClampNeg ((16 * x0) + 12)) 0) (Int32.toNatClampNeg ((16 * x0) + 13)) 0)))] := hD
  have hB2 : mB (upd (upd o_now_v (Int32.toNatClampNeg ((16 * x0) + 12)) 0) (Int32.toNatClampNeg ((16 * x0) + 13)) 0) := mB_upd (n := ((16 * lv) + 13)) hB1 (nx_add (nx_mul (show (16 : Int32) = nI 16 from rfl) elv) (show (13 : Int32) = nI 13 from rfl)) (by omega) (fun _ => by decide)
  subst hu
  exact hg_rvE hx hb hr hlk hB2 hP hD hS dX5_beginOn_26

set_option maxHeartbeats 4000000 in
set_option maxRecDepth 100000 in
theorem c_X5_encore (l : Launch) (dC : Nat → ClassId) (dI : Nat → Nat → Nat) (cI cZ cM : ClassId) (sz : Nat) (o_h : Nat) (o_players : Int32) (o_bars : Int32) (o_price : Nat) (o_breath : Nat) (o_kind : Nat) (o_looks : Nat) (o_noise : Nat) (o_repeat : Nat) (o_now : Nat) (o_readPlayer : Nat) (o_readBar : Nat) (o_readPlayers : Int32) (o_readBars : Int32) (o_text : Nat) (o_length : Int32) (o_at : Int32) (o_faultAt : Int32) (o_acts : Int32) (o_next : Int32) (o_row : Nat) (o_heard : Int32) (o_heardOf : Nat) (o_heardBars : Nat) (o_heardPlays : Nat) (o_hushWho : Int32) (o_hushSum : Int32) (o_seed : Int64) (o_isKept : Nat) (o_kept : Nat) (o_now_v : Nat → Int32) (o_row_v : Nat → Int32) (np : Nat) (enp : o_players = nI np) (hnp : np ≤ 6) (nb : Nat) (enb : o_bars = nI nb) (hnb : nb ≤ 8) (nx : Nat) (enx : o_next = nI nx) (hnx : nx < 14) (hB : mB o_now_v) (u : Int32 × Int32 × Int32 × (Nat → Int32) × (Nat → Int32)) (hu : u = f_X5_encore o_players o_bars o_acts o_next o_now_v o_row_v) : Met l yX5_encore wsX5_encore { frames := 2, cells := 0, slots := 0, locals := 45 } (hgPc [.ref o_h] (dC, dI) cI cZ cM [(o_h, .inr (5, [.int o_players, .int o_bars, .ref o_price, .ref o_breath, .ref o_kind, .ref o_looks, .ref o_noise, .ref o_repeat, .ref o_now, .ref o_readPlayer, .ref o_readBar, .int o_readPlayers, .int o_readBars, .ref o_text, .int o_length, .int o_at, .int o_faultAt, .int o_acts, .int o_next, .ref o_row, .int o_heard, .ref o_heardOf, .ref o_heardBars, .ref o_heardPlays, .int o_hushWho, .int o_hushSum, .long o_seed, .ref o_isKept, .ref o_kept])), (o_now, .inl (cI, 32, .inl o_now_v)), (o_row, .inl (cI, 224, .inl o_row_v))] sz) (hgQi (dC, dI) u.1 [(o_h, .inr (5, [.int o_players, .int o_bars, .ref o_price, .ref o_breath, .ref o_kind, .ref o_looks, .ref o_noise, .ref o_repeat, .ref o_now, .ref o_readPlayer, .ref o_readBar, .int o_readPlayers, .int o_readBars, .ref o_text, .int o_length, .int o_at, .int o_faultAt, .int u.2.1, .int u.2.2.1, .ref o_row, .int o_heard, .ref o_heardOf, .ref o_heardBars, .ref o_heardPlays, .int o_hushWho, .int o_hushSum, .long o_seed, .ref o_isKept, .ref o_kept])), (o_now, .inl (cI, 32, .inl u.2.2.2.1)), (o_row, .inl (cI, 224, .inl u.2.2.2.2))] (va_A [(o_h, .inr (5, [.int o_players, .int o_bars, .ref o_price, .ref o_breath, .ref o_kind, .ref o_looks, .ref o_noise, .ref o_repeat, .ref o_now, .ref o_readPlayer, .ref o_readBar, .int o_readPlayers, .int o_readBars, .ref o_text, .int o_length, .int o_at, .int o_faultAt, .int o_acts, .int o_next, .ref o_row, .int o_heard, .ref o_heardOf, .ref o_heardBars, .ref o_heardPlays, .int o_hushWho, .int o_hushSum, .long o_seed, .ref o_isKept, .ref o_kept])), (o_now, .inl (cI, 32, .inl o_now_v)), (o_row, .inl (cI, 224, .inl o_row_v))] sz)) 0 0 (va_A [(o_h, .inr (5, [.int o_players, .int o_bars, .ref o_price, .ref o_breath, .ref o_kind, .ref o_looks, .ref o_noise, .ref o_repeat, .ref o_now, .ref o_readPlayer, .ref o_readBar, .int o_readPlayers, .int o_readBars, .ref o_text, .int o_length, .int o_at, .int o_faultAt, .int o_acts, .int o_next, .ref o_row, .int o_heard, .ref o_heardOf, .ref o_heardBars, .ref o_heardPlays, .int o_hushWho, .int o_hushSum, .long o_seed, .ref o_isKept, .ref o_kept])), (o_now, .inl (cI, 32, .inl o_now_v)), (o_row, .inl (cI, 224, .inl o_row_v))] sz) := by
  refine hg_ofW (cc := cX5_encore) (maxL := 1) (ret := (some .int)) (own := RX5) (fun A => hgQi (dC, dI) u.1 [(o_h, .inr (5, [.int o_players, .int o_bars, .ref o_price, .ref o_breath, .ref o_kind, .ref o_looks, .ref o_noise, .ref o_repeat, .ref o_now, .ref o_readPlayer, .ref o_readBar, .int o_readPlayers, .int o_readBars, .ref o_text, .int o_length, .int o_at, .int o_faultAt, .int u.2.1, .int u.2.2.1, .ref o_row, .int o_heard, .ref o_heardOf, .ref o_heardBars, .ref o_heardPlays, .int o_hushWho, .int o_hushSum, .long o_seed, .ref o_isKept, .ref o_kept])), (o_now, .inl (cI, 32, .inl u.2.2.2.1)), (o_row, .inl (cI, 224, .inl u.2.2.2.2))] A) rfl (by decide) rfl (Nat.le_of_ble_eq_true rfl) ?_
  intro p e s m below meth c ls A hsz hx hb hr hml hown hts hlk hnm hK hN hA hP hD hS hl
  subst hsz
  have w1 := hts (.fieldLink RX5 96 "HatGoesRoundModel" "bars" "I") (List.mem_of_getElem? (i := 1) rfl)
  have hinX5 : ∀ w ∈ u_ws RX5 TX5 29, w ∈ wsX5_encore := fun _ h => List.mem_cons_of_mem _ (List.mem_append_right _ h)
  have hl : lv_has ls 1 [(0, .ref o_h)] := hl
  unfold f_X5_encore at hu
  refine lv_aload_n hx hb dX5_encore_0 rfl (lv_at hl 0 rfl) ?_
  refine va_get (D := (dC, dI)) (ci := 5) (v := .int o_bars) (C := RX5) (T := TX5) (N := 29) hx hb hts hinX5 hown hK hP 0 rfl rfl 1 (by decide) w1 (fun _ h9 => h9) rfl dX5_encore_1 ?_
  refine lv_if_ne (tgt := 10) hx hb dX5_encore_4 (by decide) (fun c_4 => ?_) (fun c_4 => ?_)
  · have hu := hu.trans (if_neg c_4)
    refine lv_aload_n hx hb dX5_encore_10 rfl (lv_at hl 0 rfl) ?_
    obtain ⟨r1, er1, hu⟩ := lxb_o hu
    refine hg_cv (va_runV (As := []) (rest := []) ⟨hx, hb, hml, hown, hts⟩ (c_X5_keepAct l dC dI cI cZ cM _ o_h o_players o_bars o_price o_breath o_kind o_looks o_noise o_repeat o_now o_readPlayer o_readBar o_readPlayers o_readBars o_text o_length o_at o_faultAt o_acts o_next o_row o_heard o_heardOf o_heardBars o_heardPlays o_hushWho o_hushSum o_seed o_isKept o_kept o_now_v o_row_v np enp (by omega) nb enb (by omega) nx enx (by omega) r1 er1) (cwV 0 hts gX5_encore_X5_keepAct rfl rfl rfl (by decide +kernel) ⟨Nat.le_of_ble_eq_true rfl, Nat.le_of_ble_eq_true rfl⟩) (hgPreV (C := RX5) (T := TX5) (N := 29) (ci := 5) (q0 := 0) hP hD hK hN [0, 1, 2] rfl rfl rfl rfl) rfl rfl hl.1 rfl (lv_room (Nat.le_of_ble_eq_true rfl)) dX5_encore_11 ⟨Nat.zero_le _, Nat.zero_le _⟩) hP hD hS hA (wr := []) (wf := [(o_h, .inr (5, [.int o_players, .int o_bars, .ref o_price, .ref o_breath, .ref o_kind, .ref o_looks, .ref o_noise, .ref o_repeat, .ref o_now, .ref o_readPlayer, .ref o_readBar, .int o_readPlayers, .int o_readBars, .ref o_text, .int o_length, .int o_at, .int o_faultAt, .int r1.1, .int r1.2.1, .ref o_row, .int o_heard, .ref o_heardOf, .ref o_heardBars, .ref o_heardPlays, .int o_hushWho, .int o_hushSum, .long o_seed, .ref o_isKept, .ref o_kept])), (o_now, .inl (cI, 32, .inl o_now_v)), (o_row, .inl (cI, 224, .inl r1.2.2))]) [0, 1, 2] [] [0, 1, 2] rfl rfl rfl (by decide) rfl rfl (fun H locs hP hD hS => ?_)
    refine lv_aload_n hx hb dX5_encore_14 rfl (lv_at hl 0 rfl) ?_
    refine lv_iconst (v := 0) hx hb dX5_encore_15 (by decide) ?_
    obtain ⟨r2, er2, hu⟩ := lxb_o hu
    refine hg_cvE (va_runV (As := [.int 0]) (rest := []) ⟨hx, hb, hml, hown, hts⟩ (c_X5_beginOn l dC dI cI cZ cM _ o_h 0 o_players o_bars o_price o_breath o_kind o_looks o_noise o_repeat o_now o_readPlayer o_readBar o_readPlayers o_readBars o_text o_length o_at o_faultAt r1.1 r1.2.1 o_row o_heard o_heardOf o_heardBars o_heardPlays o_hushWho o_hushSum o_seed o_isKept o_kept o_now_v np enp (by omega) nb enb (by omega) 0 (show (0 : Int32) = nI 0 from rfl) (by omega) hB r2 er2) (cwV 1 hts gX5_encore_X5_beginOn rfl rfl rfl (by decide +kernel) ⟨Nat.le_of_ble_eq_true rfl, Nat.le_of_ble_eq_true rfl⟩) (hgPreV (C := RX5) (T := TX5) (N := 29) (ci := 5) (q0 := 0) hP hD hK hN [0, 1] rfl rfl rfl rfl) rfl rfl hl.1 rfl (lv_room (Nat.le_of_ble_eq_true rfl)) dX5_encore_16 ⟨Nat.zero_le _, Nat.zero_le _⟩) hP hD hS hA (wr := [(o_row, .inl (cI, 224, .inl r1.2.2))]) (wf := [(o_h, .inr (5, [.int o_players, .int o_bars, .ref o_price, .ref o_breath, .ref o_kind, .ref o_looks, .ref o_noise, .ref o_repeat, .ref o_now, .ref o_readPlayer, .ref o_readBar, .int o_readPlayers, .int o_readBars, .ref o_text, .int o_length, .int o_at, .int o_faultAt, .int r1.1, .int r1.2.1, .ref o_row, .int o_heard, .ref o_heardOf, .ref o_heardBars, .ref o_heardPlays, .int o_hushWho, .int o_hushSum, .long o_seed, .ref o_isKept, .ref o_kept])), (o_now, .inl (cI, 32, .inl r2)), (o_row, .inl (cI, 224, .inl r1.2.2))]) [0, 1] [2] [1, 2, 0] rfl rfl rfl (by decide) rfl rfl (fun hB3 H locs hP hD hS => ?_)
    refine lv_aload_n hx hb dX5_encore_19 rfl (lv_at hl 0 rfl) ?_
    refine lv_iconst (v := 0) hx hb dX5_encore_20 (by decide) ?_
    obtain ⟨r4, er4, hu⟩ := lxb_o hu
    refine hg_ci (va_runV (As := [.int 0]) (rest := []) ⟨hx, hb, hml, hown, hts⟩ (c_X5_howMany l dC dI cI cZ cM _ o_h 0 o_players o_bars o_price o_breath o_kind o_looks o_noise o_repeat o_now o_readPlayer o_readBar o_readPlayers o_readBars o_text o_length o_at o_faultAt r1.1 r1.2.1 o_row o_heard o_heardOf o_heardBars o_heardPlays o_hushWho o_hushSum o_seed o_isKept o_kept r2 np enp (by omega) nb enb (by omega) 0 (show (0 : Int32) = nI 0 from rfl) (by omega) r4 er4) (cwV 1 hts gX5_encore_X5_howMany rfl rfl rfl (by decide +kernel) ⟨Nat.le_of_ble_eq_true rfl, Nat.le_of_ble_eq_true rfl⟩) (hgPreV (C := RX5) (T := TX5) (N := 29) (ci := 5) (q0 := 0) hP hD hK hN [0, 1] rfl rfl rfl rfl) rfl rfl hl.1 rfl (lv_room (Nat.le_of_ble_eq_true rfl)) dX5_encore_21 ⟨Nat.zero_le _, Nat.zero_le _⟩) hP hD hS hA (wr := [(o_row, .inl (cI, 224, .inl r1.2.2))]) (wf := [(o_h, .inr (5, [.int o_players, .int o_bars, .ref o_price, .ref o_breath, .ref o_kind, .ref o_looks, .ref o_noise, .ref o_repeat, .ref o_now, .ref o_readPlayer, .ref o_readBar, .int o_readPlayers, .int o_readBars, .ref o_text, .int o_length, .int o_at, .int o_faultAt, .int r1.1, .int r1.2.1, .ref o_row, .int o_heard, .ref o_heardOf, .ref o_heardBars, .ref o_heardPlays, .int o_hushWho, .int o_hushSum, .long o_seed, .ref o_isKept, .ref o_kept])), (o_now, .inl (cI, 32, .inl r2)), (o_row, .inl (cI, 224, .inl r1.2.2))]) [0, 1] [2] [1, 2, 0] rfl rfl rfl (by decide) rfl rfl (fun H locs hP hD hS => ?_)
    subst hu
    exact hg_ri hx hb hr hlk rfl hP hD hS dX5_encore_24
  · have hu := hu.trans (if_pos c_4)
    refine lv_bipush (v := (-3)) hx hb dX5_encore_7 (by decide) ?_
    subst hu
    exact hg_ri hx hb hr hlk rfl hP hD hS dX5_encore_9

set_option maxHeartbeats 4000000 in
set_option maxRecDepth 100000 in
theorem c_X5_undo (l : Launch) (dC : Nat → ClassId) (dI : Nat → Nat → Nat) (cI cZ cM : ClassId) (sz : Nat) (o_h : Nat) (o_players : Int32) (o_bars : Int32) (o_price : Nat) (o_breath : Nat) (o_kind : Nat) (o_looks : Nat) (o_noise : Nat) (o_repeat : Nat) (o_now : Nat) (o_readPlayer : Nat) (o_readBar : Nat) (o_readPlayers : Int32) (o_readBars : Int32) (o_text : Nat) (o_length : Int32) (o_at : Int32) (o_faultAt : Int32) (o_acts : Int32) (o_next : Int32) (o_row : Nat) (o_heard : Int32) (o_heardOf : Nat) (o_heardBars : Nat) (o_heardPlays : Nat) (o_hushWho : Int32) (o_hushSum : Int32) (o_seed : Int64) (o_isKept : Nat) (o_kept : Nat) (o_row_v : Nat → Int32) (o_now_v : Nat → Int32) (np : Nat) (enp : o_players = nI np) (hnp : np ≤ 6) (nb : Nat) (enb : o_bars = nI nb) (hnb : nb ≤ 8) (nx : Nat) (enx : o_next = nI nx) (hnx : nx < 14) (u : Int32 × Int32 × Int32 × (Nat → Int32)) (hu : u = f_X5_undo o_acts o_next o_row_v o_now_v) : Met l yX5_undo wsX5_undo { frames := 0, cells := 0, slots := 0, locals := 0 } (hgPc [.ref o_h] (dC, dI) cI cZ cM [(o_h, .inr (5, [.int o_players, .int o_bars, .ref o_price, .ref o_breath, .ref o_kind, .ref o_looks, .ref o_noise, .ref o_repeat, .ref o_now, .ref o_readPlayer, .ref o_readBar, .int o_readPlayers, .int o_readBars, .ref o_text, .int o_length, .int o_at, .int o_faultAt, .int o_acts, .int o_next, .ref o_row, .int o_heard, .ref o_heardOf, .ref o_heardBars, .ref o_heardPlays, .int o_hushWho, .int o_hushSum, .long o_seed, .ref o_isKept, .ref o_kept])), (o_row, .inl (cI, 224, .inl o_row_v)), (o_now, .inl (cI, 32, .inl o_now_v))] sz) (hgQi (dC, dI) u.1 [(o_h, .inr (5, [.int o_players, .int o_bars, .ref o_price, .ref o_breath, .ref o_kind, .ref o_looks, .ref o_noise, .ref o_repeat, .ref o_now, .ref o_readPlayer, .ref o_readBar, .int o_readPlayers, .int o_readBars, .ref o_text, .int o_length, .int o_at, .int o_faultAt, .int u.2.1, .int u.2.2.1, .ref o_row, .int o_heard, .ref o_heardOf, .ref o_heardBars, .ref o_heardPlays, .int o_hushWho, .int o_hushSum, .long o_seed, .ref o_isKept, .ref o_kept])), (o_row, .inl (cI, 224, .inl o_row_v)), (o_now, .inl (cI, 32, .inl u.2.2.2))] (va_A [(o_h, .inr (5, [.int o_players, .int o_bars, .ref o_price, .ref o_breath, .ref o_kind, .ref o_looks, .ref o_noise, .ref o_repeat, .ref o_now, .ref o_readPlayer, .ref o_readBar, .int o_readPlayers, .int o_readBars, .ref o_text, .int o_length, .int o_at, .int o_faultAt, .int o_acts, .int o_next, .ref o_row, .int o_heard, .ref o_heardOf, .ref o_heardBars, .ref o_heardPlays, .int o_hushWho, .int o_hushSum, .long o_seed, .ref o_isKept, .ref o_kept])), (o_row, .inl (cI, 224, .inl o_row_v)), (o_now, .inl (cI, 32, .inl o_now_v))] sz)) 0 0 (va_A [(o_h, .inr (5, [.int o_players, .int o_bars, .ref o_price, .ref o_breath, .ref o_kind, .ref o_looks, .ref o_noise, .ref o_repeat, .ref o_now, .ref o_readPlayer, .ref o_readBar, .int o_readPlayers, .int o_readBars, .ref o_text, .int o_length, .int o_at, .int o_faultAt, .int o_acts, .int o_next, .ref o_row, .int o_heard, .ref o_heardOf, .ref o_heardBars, .ref o_heardPlays, .int o_hushWho, .int o_hushSum, .long o_seed, .ref o_isKept, .ref o_kept])), (o_row, .inl (cI, 224, .inl o_row_v)), (o_now, .inl (cI, 32, .inl o_now_v))] sz) := by
  refine hg_ofW (cc := cX5_undo) (maxL := 2) (ret := (some .int)) (own := RX5) (fun A => hgQi (dC, dI) u.1 [(o_h, .inr (5, [.int o_players, .int o_bars, .ref o_price, .ref o_breath, .ref o_kind, .ref o_looks, .ref o_noise, .ref o_repeat, .ref o_now, .ref o_readPlayer, .ref o_readBar, .int o_readPlayers, .int o_readBars, .ref o_text, .int o_length, .int o_at, .int o_faultAt, .int u.2.1, .int u.2.2.1, .ref o_row, .int o_heard, .ref o_heardOf, .ref o_heardBars, .ref o_heardPlays, .int o_hushWho, .int o_hushSum, .long o_seed, .ref o_isKept, .ref o_kept])), (o_row, .inl (cI, 224, .inl o_row_v)), (o_now, .inl (cI, 32, .inl u.2.2.2))] A) rfl (by decide) rfl (Nat.le_of_ble_eq_true rfl) ?_
  intro p e s m below meth c ls A hsz hx hb hr hml hown hts hlk hnm hK hN hA hP hD hS hl
  subst hsz
  have w1 := hts (.fieldLink RX5 99 "HatGoesRoundModel" "acts" "I") (List.mem_of_getElem? (i := 1) rfl)
  have hinX5 : ∀ w ∈ u_ws RX5 TX5 29, w ∈ wsX5_undo := fun _ h => List.mem_cons_of_mem _ (List.mem_append_right _ h)
  have w2 := hts (.fieldLink RX5 133 "HatGoesRoundModel" "next" "I") (List.mem_of_getElem? (i := 2) rfl)
  have w3 := hts (.fieldLink RX5 28 "HatGoesRoundModel" "now" "[I") (List.mem_of_getElem? (i := 3) rfl)
  have w4 := hts (.fieldLink RX5 40 "HatGoesRoundModel" "row" "[I") (List.mem_of_getElem? (i := 4) rfl)
  have hl : lv_has ls 2 [(0, .ref o_h)] := hl
  unfold f_X5_undo at hu
  refine lv_aload_n hx hb dX5_undo_0 rfl (lv_at hl 0 rfl) ?_
  refine va_get (D := (dC, dI)) (ci := 5) (v := .int o_acts) (C := RX5) (T := TX5) (N := 29) hx hb hts hinX5 hown hK hP 0 rfl rfl 17 (by decide) w1 (fun _ h9 => h9) rfl dX5_undo_1 ?_
  refine lv_if_ne (tgt := 10) hx hb dX5_undo_4 (by decide) (fun c_4 => ?_) (fun c_4 => ?_)
  · have hu := hu.trans (if_neg c_4)
    refine lv_aload_n hx hb dX5_undo_10 rfl (lv_at hl 0 rfl) ?_
    refine lv_dup hx hb dX5_undo_11 rfl ?_
    refine va_get (D := (dC, dI)) (ci := 5) (v := .int o_acts) (C := RX5) (T := TX5) (N := 29) hx hb hts hinX5 hown hK hP 0 rfl rfl 17 (by decide) w1 (fun _ h9 => h9) rfl dX5_undo_12 ?_
    refine lv_iconst (v := 1) hx hb dX5_undo_15 (by decide) ?_
    refine lv_isub hx hb dX5_undo_16 ?_
    refine va_put (D := (dC, dI)) (ci := 5) (v := .int (o_acts - 1)) (ty := .int) (C := RX5) (T := TX5) (N := 29) hx hb hts hinX5 tyX5 tyX5_ok nmX5 hown hK hP hD hS 0 rfl rfl 17 (by decide) w1 (fun _ h9 => h9) rfl (by decide +kernel) rfl rfl (Nat.le_of_ble_eq_true rfl) dX5_undo_17 (fun H locs hP hD hS => ?_)
    have hP : va_P (dC, dI) vwCl [(o_h, .inr (5, [.int o_players, .int o_bars, .ref o_price, .ref o_breath, .ref o_kind, .ref o_looks, .ref o_noise, .ref o_repeat, .ref o_now, .ref o_readPlayer, .ref o_readBar, .int o_readPlayers, .int o_readBars, .ref o_text, .int o_length, .int o_at, .int o_faultAt, .int (o_acts - 1), .int o_next, .ref o_row, .int o_heard, .ref o_heardOf, .ref o_heardBars, .ref o_heardPlays, .int o_hushWho, .int o_hushSum, .long o_seed, .ref o_isKept, .ref o_kept])), (o_row, .inl (cI, 224, .inl o_row_v)), (o_now, .inl (cI, 32, .inl o_now_v))] H := hP
    have hD : va_D A [(o_h, .inr (5, [.int o_players, .int o_bars, .ref o_price, .ref o_breath, .ref o_kind, .ref o_looks, .ref o_noise, .ref o_repeat, .ref o_now, .ref o_readPlayer, .ref o_readBar, .int o_readPlayers, .int o_readBars, .ref o_text, .int o_length, .int o_at, .int o_faultAt, .int (o_acts - 1), .int o_next, .ref o_row, .int o_heard, .ref o_heardOf, .ref o_heardBars, .ref o_heardPlays, .int o_hushWho, .int o_hushSum, .long o_seed, .ref o_isKept, .ref o_kept])), (o_row, .inl (cI, 224, .inl o_row_v)), (o_now, .inl (cI, 32, .inl o_now_v))] := hD
    refine lv_aload_n hx hb dX5_undo_20 rfl (lv_at hl 0 rfl) ?_
    refine lv_aload_n hx hb dX5_undo_21 rfl (lv_at hl 0 rfl) ?_
    refine va_get (D := (dC, dI)) (ci := 5) (v := .int o_next) (C := RX5) (T := TX5) (N := 29) hx hb hts hinX5 hown hK hP 0 rfl rfl 18 (by decide) w2 (fun _ h9 => h9) rfl dX5_undo_22 ?_
    refine lv_bipush (v := 13) hx hb dX5_undo_25 (by decide) ?_
    refine lv_iadd hx hb dX5_undo_27 ?_
    refine lv_bipush (v := 14) hx hb dX5_undo_28 (by decide) ?_
    refine lv_irem hx hb dX5_undo_30 (by decide) ?_
    obtain ⟨y1, ey1, hu⟩ := lxb_o hu
    refine lv_topi (fun z ez => ?_)
    obtain rfl : y1 = z := ey1.trans ez.symm
    refine va_put (D := (dC, dI)) (ci := 5) (v := .int y1) (ty := .int) (C := RX5) (T := TX5) (N := 29) hx hb hts hinX5 tyX5 tyX5_ok nmX5 hown hK hP hD hS 0 rfl rfl 18 (by decide) w2 (fun _ h9 => h9) rfl (by decide +kernel) rfl rfl (Nat.le_of_ble_eq_true rfl) dX5_undo_31 (fun H locs hP hD hS => ?_)
    have hP : va_P (dC, dI) vwCl [(o_h, .inr (5, [.int o_players, .int o_bars, .ref o_price, .ref o_breath, .ref o_kind, .ref o_looks, .ref o_noise, .ref o_repeat, .ref o_now, .ref o_readPlayer, .ref o_readBar, .int o_readPlayers, .int o_readBars, .ref o_text, .int o_length, .int o_at, .int o_faultAt, .int (o_acts - 1), .int y1, .ref o_row, .int o_heard, .ref o_heardOf, .ref o_heardBars, .ref o_heardPlays, .int o_hushWho, .int o_hushSum, .long o_seed, .ref o_isKept, .ref o_kept])), (o_row, .inl (cI, 224, .inl o_row_v)), (o_now, .inl (cI, 32, .inl o_now_v))] H := hP
    have hD : va_D A [(o_h, .inr (5, [.int o_players, .int o_bars, .ref o_price, .ref o_breath, .ref o_kind, .ref o_looks, .ref o_noise, .ref o_repeat, .ref o_now, .ref o_readPlayer, .ref o_readBar, .int o_readPlayers, .int o_readBars, .ref o_text, .int o_length, .int o_at, .int o_faultAt, .int (o_acts - 1), .int y1, .ref o_row, .int o_heard, .ref o_heardOf, .ref o_heardBars, .ref o_heardPlays, .int o_hushWho, .int o_hushSum, .long o_seed, .ref o_isKept, .ref o_kept])), (o_row, .inl (cI, 224, .inl o_row_v)), (o_now, .inl (cI, 32, .inl o_now_v))] := hD
    refine lv_iconst (v := 0) hx hb dX5_undo_34 (by decide) ?_
    refine lv_istore_n (lv' := [(1, .int 0), (0, .ref o_h)]) hx hb dX5_undo_35 rfl hl (by decide) rfl (fun ls hl => ?_)
    obtain ⟨r3, er3, hu⟩ := lxb_o hu
    refine hg_loopF (T := (Nat → Int32)) (N := (itn 0 16)) (fun v36 => [(o_h, .inr (5, [.int o_players, .int o_bars, .ref o_price, .ref o_breath, .ref o_kind, .ref o_looks, .ref o_noise, .ref o_repeat, .ref o_now, .ref o_readPlayer, .ref o_readBar, .int o_readPlayers, .int o_readBars, .ref o_text, .int o_length, .int o_at, .int o_faultAt, .int (o_acts - 1), .int y1, .ref o_row, .int o_heard, .ref o_heardOf, .ref o_heardBars, .ref o_heardPlays, .int o_hushWho, .int o_hushSum, .long o_seed, .ref o_isKept, .ref o_kept])), (o_row, .inl (cI, 224, .inl o_row_v)), (o_now, .inl (cI, 32, .inl v36))]) (fun k36 v36 => [(0, .ref o_h), (1, .int (nI k36))]) (fun k36 => l_X5_undo_36 o_row_v y1 o_now_v k36) ?_ ?_ hP hD hS (lv_sub hl [1, 0] rfl)
    · intro v36 hv H locs ls hP hD hS hl
      obtain rfl : r3 = v36 := er3.trans hv.symm
      have hP : va_P (dC, dI) vwCl [(o_h, .inr (5, [.int o_players, .int o_bars, .ref o_price, .ref o_breath, .ref o_kind, .ref o_looks, .ref o_noise, .ref o_repeat, .ref o_now, .ref o_readPlayer, .ref o_readBar, .int o_readPlayers, .int o_readBars, .ref o_text, .int o_length, .int o_at, .int o_faultAt, .int (o_acts - 1), .int y1, .ref o_row, .int o_heard, .ref o_heardOf, .ref o_heardBars, .ref o_heardPlays, .int o_hushWho, .int o_hushSum, .long o_seed, .ref o_isKept, .ref o_kept])), (o_row, .inl (cI, 224, .inl o_row_v)), (o_now, .inl (cI, 32, .inl r3))] H := hP
      have hD : va_D A [(o_h, .inr (5, [.int o_players, .int o_bars, .ref o_price, .ref o_breath, .ref o_kind, .ref o_looks, .ref o_noise, .ref o_repeat, .ref o_now, .ref o_readPlayer, .ref o_readBar, .int o_readPlayers, .int o_readBars, .ref o_text, .int o_length, .int o_at, .int o_faultAt, .int (o_acts - 1), .int y1, .ref o_row, .int o_heard, .ref o_heardOf, .ref o_heardBars, .ref o_heardPlays, .int o_hushWho, .int o_hushSum, .long o_seed, .ref o_isKept, .ref o_kept])), (o_row, .inl (cI, 224, .inl o_row_v)), (o_now, .inl (cI, 32, .inl r3))] := hD
      have hl : lv_has ls 2 [(0, .ref o_h), (1, .int (nI (itn 0 16)))] := hl
      refine lv_iload_n hx hb dX5_undo_36 rfl (lv_at hl 1 rfl) ?_
      refine lv_bipush (v := 16) hx hb dX5_undo_37 (by decide) ?_
      refine lv_icmp_ge (tgt := 68) hx hb dX5_undo_39 (by decide) (fun c_39 => ?_) (fun c_39 => absurd hg_lo0 c_39)
      refine lv_aload_n hx hb dX5_undo_68 rfl (lv_at hl 0 rfl) ?_
      refine va_get (D := (dC, dI)) (ci := 5) (v := .int (o_acts - 1)) (C := RX5) (T := TX5) (N := 29) hx hb hts hinX5 hown hK hP 0 rfl rfl 17 (by decide) w1 (fun _ h9 => h9) rfl dX5_undo_69 ?_
      subst hu
      exact hg_ri hx hb hr hlk rfl hP hD hS dX5_undo_72
    · intro k36 hk v36 hv w hw ih H locs ls hP hD hS hl
      have hw : w = b_X5_undo_36 o_row_v y1 k36 v36 := by rw [hw, hv]; rfl
      unfold b_X5_undo_36 at hw
      have hkb : k36 < 16 := Nat.lt_of_lt_of_le hk (by decide)
      have hP : va_P (dC, dI) vwCl [(o_h, .inr (5, [.int o_players, .int o_bars, .ref o_price, .ref o_breath, .ref o_kind, .ref o_looks, .ref o_noise, .ref o_repeat, .ref o_now, .ref o_readPlayer, .ref o_readBar, .int o_readPlayers, .int o_readBars, .ref o_text, .int o_length, .int o_at, .int o_faultAt, .int (o_acts - 1), .int y1, .ref o_row, .int o_heard, .ref o_heardOf, .ref o_heardBars, .ref o_heardPlays, .int o_hushWho, .int o_hushSum, .long o_seed, .ref o_isKept, .ref o_kept])), (o_row, .inl (cI, 224, .inl o_row_v)), (o_now, .inl (cI, 32, .inl v36))] H := hP
      have hD : va_D A [(o_h, .inr (5, [.int o_players, .int o_bars, .ref o_price, .ref o_breath, .ref o_kind, .ref o_looks, .ref o_noise, .ref o_repeat, .ref o_now, .ref o_readPlayer, .ref o_readBar, .int o_readPlayers, .int o_readBars, .ref o_text, .int o_length, .int o_at, .int o_faultAt, .int (o_acts - 1), .int y1, .ref o_row, .int o_heard, .ref o_heardOf, .ref o_heardBars, .ref o_heardPlays, .int o_hushWho, .int o_hushSum, .long o_seed, .ref o_isKept, .ref o_kept])), (o_row, .inl (cI, 224, .inl o_row_v)), (o_now, .inl (cI, 32, .inl v36))] := hD
      have hl : lv_has ls 2 [(0, .ref o_h), (1, .int (nI k36))] := hl
      refine lv_iload_n hx hb dX5_undo_36 rfl (lv_at hl 1 rfl) ?_
      refine lv_bipush (v := 16) hx hb dX5_undo_37 (by decide) ?_
      refine lv_icmp_ge (tgt := 68) hx hb dX5_undo_39 (by decide) (fun c_39 => absurd c_39 (hg_lo1 hk)) (fun c_39 => ?_)
      refine lv_aload_n hx hb dX5_undo_42 rfl (lv_at hl 0 rfl) ?_
      refine va_get (D := (dC, dI)) (ci := 5) (v := .ref o_now) (C := RX5) (T := TX5) (N := 29) hx hb hts hinX5 hown hK hP 0 rfl rfl 8 (by decide) w3 (fun _ h9 => h9) rfl dX5_undo_43 ?_
      refine lv_iload_n hx hb dX5_undo_46 rfl (lv_at hl 1 rfl) ?_
      refine lv_aload_n hx hb dX5_undo_47 rfl (lv_at hl 0 rfl) ?_
      refine va_get (D := (dC, dI)) (ci := 5) (v := .ref o_row) (C := RX5) (T := TX5) (N := 29) hx hb hts hinX5 hown hK hP 0 rfl rfl 19 (by decide) w4 (fun _ h9 => h9) rfl dX5_undo_48 ?_
      refine lv_bipush (v := 16) hx hb dX5_undo_51 (by decide) ?_
      refine lv_aload_n hx hb dX5_undo_53 rfl (lv_at hl 0 rfl) ?_
      refine va_get (D := (dC, dI)) (ci := 5) (v := .int y1) (C := RX5) (T := TX5) (N := 29) hx hb hts hinX5 hown hK hP 0 rfl rfl 18 (by decide) w2 (fun _ h9 => h9) rfl dX5_undo_54 ?_
      refine lv_imul hx hb dX5_undo_57 ?_
      refine lv_iload_n hx hb dX5_undo_58 rfl (lv_at hl 1 rfl) ?_
      refine lv_iadd hx hb dX5_undo_59 ?_
      refine va_iald hx hb hK hP 1 0 rfl rfl (n := 224) (f := o_row_v) (hg_in (n := ((16 * ((nx + 13) % 14)) + k36)) (N := 224) (nx_add (nx_mul (show (16 : Int32) = nI 16 from rfl) (ey1.trans (nx_rem (nx_add enx (show (13 : Int32) = nI 13 from rfl)) rfl (by omega) (by decide) (by decide)))) rfl) (by omega) (by decide)) dX5_undo_60 ?_
      obtain ⟨y2, ey2, hw⟩ := lxb_o hw
      refine lv_topi (fun z ez => ?_)
      obtain rfl : y2 = z := ey2.trans ez.symm
      refine va_iast hx hb hK hP hD hS 2 0 rfl rfl (n := 32) (f := v36) (hg_in (n := k36) (N := 32) rfl (by omega) (by decide)) dX5_undo_61 (fun H locs hP hD hS => ?_)
      have hP : va_P (dC, dI) vwCl [(o_h, .inr (5, [.int o_players, .int o_bars, .ref o_price, .ref o_breath, .ref o_kind, .ref o_looks, .ref o_noise, .ref o_repeat, .ref o_now, .ref o_readPlayer, .ref o_readBar, .int o_readPlayers, .int o_readBars, .ref o_text, .int o_length, .int o_at, .int o_faultAt, .int (o_acts - 1), .int y1, .ref o_row, .int o_heard, .ref o_heardOf, .ref o_heardBars, .ref o_heardPlays, .int o_hushWho, .int o_hushSum, .long o_seed, .ref o_isKept, .ref o_kept])), (o_row, .inl (cI, 224, .inl o_row_v)), (o_now, .inl (cI, 32, .inl (upd v36 (Int32.toNatClampNeg (nI k36)) y2)))] H := hP
      have hD : va_D A [(o_h, .inr (5, [.int o_players, .int o_bars, .ref o_price, .ref o_breath, .ref o_kind, .ref o_looks, .ref o_noise, .ref o_repeat, .ref o_now, .ref o_readPlayer, .ref o_readBar, .int o_readPlayers, .int o_readBars, .ref o_text, .int o_length, .int o_at, .int o_faultAt, .int (o_acts - 1), .int y1, .ref o_row, .int o_heard, .ref o_heardOf, .ref o_heardBars, .ref o_heardPlays, .int o_hushWho, .int o_hushSum, .long o_seed, .ref o_isKept, .ref o_kept])), (o_row, .inl (cI, 224, .inl o_row_v)), (o_now, .inl (cI, 32, .inl (upd v36 (Int32.toNatClampNeg (nI k36)) y2)))] := hD
      refine lv_iinc (v := nI (k36 + 1)) (lv' := [(1, .int (nI (k36 + 1))), (0, .ref o_h)]) hx hb dX5_undo_62 hl (k := 1) rfl (nI_1 k36) (by decide) rfl (fun ls hl => ?_)
      refine lv_goto (tgt := 36) hx hb dX5_undo_65 (by decide) ?_
      subst hw
      exact ih _ _ _ hP hD hS (lv_sub hl [1, 0] rfl)
  · have hu := hu.trans (if_pos c_4)
    refine lv_bipush (v := (-3)) hx hb dX5_undo_7 (by decide) ?_
    subst hu
    exact hg_ri hx hb hr hlk rfl hP hD hS dX5_undo_9

set_option maxHeartbeats 4000000 in
set_option maxRecDepth 100000 in
theorem c_X5_layTrial (l : Launch) (dC : Nat → ClassId) (dI : Nat → Nat → Nat) (cI cZ cM : ClassId) (sz : Nat) (o_h : Nat) (o_players : Int32) (o_bars : Int32) (o_price : Nat) (o_breath : Nat) (o_kind : Nat) (o_looks : Nat) (o_noise : Nat) (o_repeat : Nat) (o_now : Nat) (o_readPlayer : Nat) (o_readBar : Nat) (o_readPlayers : Int32) (o_readBars : Int32) (o_text : Nat) (o_length : Int32) (o_at : Int32) (o_faultAt : Int32) (o_acts : Int32) (o_next : Int32) (o_row : Nat) (o_heard : Int32) (o_heardOf : Nat) (o_heardBars : Nat) (o_heardPlays : Nat) (o_hushWho : Int32) (o_hushSum : Int32) (o_seed : Int64) (o_isKept : Nat) (o_kept : Nat) (o_now_v : Nat → Int32) (np : Nat) (enp : o_players = nI np) (hnp : np ≤ 6) (nb : Nat) (enb : o_bars = nI nb) (hnb : nb ≤ 8) (hB : mB o_now_v) (u : (Nat → Int32)) (hu : u = f_X5_layTrial o_now_v) : Met l yX5_layTrial wsX5_layTrial { frames := 0, cells := 0, slots := 0, locals := 0 } (hgPc [.ref o_h] (dC, dI) cI cZ cM [(o_h, .inr (5, [.int o_players, .int o_bars, .ref o_price, .ref o_breath, .ref o_kind, .ref o_looks, .ref o_noise, .ref o_repeat, .ref o_now, .ref o_readPlayer, .ref o_readBar, .int o_readPlayers, .int o_readBars, .ref o_text, .int o_length, .int o_at, .int o_faultAt, .int o_acts, .int o_next, .ref o_row, .int o_heard, .ref o_heardOf, .ref o_heardBars, .ref o_heardPlays, .int o_hushWho, .int o_hushSum, .long o_seed, .ref o_isKept, .ref o_kept])), (o_now, .inl (cI, 32, .inl o_now_v))] sz) (hgQvE (dC, dI) [(o_h, .inr (5, [.int o_players, .int o_bars, .ref o_price, .ref o_breath, .ref o_kind, .ref o_looks, .ref o_noise, .ref o_repeat, .ref o_now, .ref o_readPlayer, .ref o_readBar, .int o_readPlayers, .int o_readBars, .ref o_text, .int o_length, .int o_at, .int o_faultAt, .int o_acts, .int o_next, .ref o_row, .int o_heard, .ref o_heardOf, .ref o_heardBars, .ref o_heardPlays, .int o_hushWho, .int o_hushSum, .long o_seed, .ref o_isKept, .ref o_kept])), (o_now, .inl (cI, 32, .inl u))] (mB u) (va_A [(o_h, .inr (5, [.int o_players, .int o_bars, .ref o_price, .ref o_breath, .ref o_kind, .ref o_looks, .ref o_noise, .ref o_repeat, .ref o_now, .ref o_readPlayer, .ref o_readBar, .int o_readPlayers, .int o_readBars, .ref o_text, .int o_length, .int o_at, .int o_faultAt, .int o_acts, .int o_next, .ref o_row, .int o_heard, .ref o_heardOf, .ref o_heardBars, .ref o_heardPlays, .int o_hushWho, .int o_hushSum, .long o_seed, .ref o_isKept, .ref o_kept])), (o_now, .inl (cI, 32, .inl o_now_v))] sz)) 0 0 (va_A [(o_h, .inr (5, [.int o_players, .int o_bars, .ref o_price, .ref o_breath, .ref o_kind, .ref o_looks, .ref o_noise, .ref o_repeat, .ref o_now, .ref o_readPlayer, .ref o_readBar, .int o_readPlayers, .int o_readBars, .ref o_text, .int o_length, .int o_at, .int o_faultAt, .int o_acts, .int o_next, .ref o_row, .int o_heard, .ref o_heardOf, .ref o_heardBars, .ref o_heardPlays, .int o_hushWho, .int o_hushSum, .long o_seed, .ref o_isKept, .ref o_kept])), (o_now, .inl (cI, 32, .inl o_now_v))] sz) := by
  refine hg_ofW (cc := cX5_layTrial) (maxL := 2) (ret := none) (own := RX5) (fun A => hgQvE (dC, dI) [(o_h, .inr (5, [.int o_players, .int o_bars, .ref o_price, .ref o_breath, .ref o_kind, .ref o_looks, .ref o_noise, .ref o_repeat, .ref o_now, .ref o_readPlayer, .ref o_readBar, .int o_readPlayers, .int o_readBars, .ref o_text, .int o_length, .int o_at, .int o_faultAt, .int o_acts, .int o_next, .ref o_row, .int o_heard, .ref o_heardOf, .ref o_heardBars, .ref o_heardPlays, .int o_hushWho, .int o_hushSum, .long o_seed, .ref o_isKept, .ref o_kept])), (o_now, .inl (cI, 32, .inl u))] (mB u) A) rfl (by decide) rfl (Nat.le_of_ble_eq_true rfl) ?_
  intro p e s m below meth c ls A hsz hx hb hr hml hown hts hlk hnm hK hN hA hP hD hS hl
  subst hsz
  have w1 := hts (.fieldLink RX5 28 "HatGoesRoundModel" "now" "[I") (List.mem_of_getElem? (i := 1) rfl)
  have hinX5 : ∀ w ∈ u_ws RX5 TX5 29, w ∈ wsX5_layTrial := fun _ h => List.mem_cons_of_mem _ (List.mem_append_right _ h)
  have hl : lv_has ls 2 [(0, .ref o_h)] := hl
  unfold f_X5_layTrial at hu
  refine lv_iconst (v := 0) hx hb dX5_layTrial_0 (by decide) ?_
  refine lv_istore_n (lv' := [(1, .int 0), (0, .ref o_h)]) hx hb dX5_layTrial_1 rfl hl (by decide) rfl (fun ls hl => ?_)
  obtain ⟨r3, er3, hu⟩ := lxb_o hu
  refine hg_loopFJ (T := (Nat → Int32)) (N := (itn 0 16)) (fun v2 => (mB v2)) (fun v2 => [(o_h, .inr (5, [.int o_players, .int o_bars, .ref o_price, .ref o_breath, .ref o_kind, .ref o_looks, .ref o_noise, .ref o_repeat, .ref o_now, .ref o_readPlayer, .ref o_readBar, .int o_readPlayers, .int o_readBars, .ref o_text, .int o_length, .int o_at, .int o_faultAt, .int o_acts, .int o_next, .ref o_row, .int o_heard, .ref o_heardOf, .ref o_heardBars, .ref o_heardPlays, .int o_hushWho, .int o_hushSum, .long o_seed, .ref o_isKept, .ref o_kept])), (o_now, .inl (cI, 32, .inl v2))]) (fun k2 v2 => [(0, .ref o_h), (1, .int (nI k2))]) (fun k2 => l_X5_layTrial_2 o_now_v k2) hB ?_ ?_ hP hD hS (lv_sub hl [1, 0] rfl)
  · intro v2 hJ2 hv H locs ls hP hD hS hl
    obtain rfl : r3 = v2 := er3.trans hv.symm
    have hP : va_P (dC, dI) vwCl [(o_h, .inr (5, [.int o_players, .int o_bars, .ref o_price, .ref o_breath, .ref o_kind, .ref o_looks, .ref o_noise, .ref o_repeat, .ref o_now, .ref o_readPlayer, .ref o_readBar, .int o_readPlayers, .int o_readBars, .ref o_text, .int o_length, .int o_at, .int o_faultAt, .int o_acts, .int o_next, .ref o_row, .int o_heard, .ref o_heardOf, .ref o_heardBars, .ref o_heardPlays, .int o_hushWho, .int o_hushSum, .long o_seed, .ref o_isKept, .ref o_kept])), (o_now, .inl (cI, 32, .inl r3))] H := hP
    have hD : va_D A [(o_h, .inr (5, [.int o_players, .int o_bars, .ref o_price, .ref o_breath, .ref o_kind, .ref o_looks, .ref o_noise, .ref o_repeat, .ref o_now, .ref o_readPlayer, .ref o_readBar, .int o_readPlayers, .int o_readBars, .ref o_text, .int o_length, .int o_at, .int o_faultAt, .int o_acts, .int o_next, .ref o_row, .int o_heard, .ref o_heardOf, .ref o_heardBars, .ref o_heardPlays, .int o_hushWho, .int o_hushSum, .long o_seed, .ref o_isKept, .ref o_kept])), (o_now, .inl (cI, 32, .inl r3))] := hD
    have hl : lv_has ls 2 [(0, .ref o_h), (1, .int (nI (itn 0 16)))] := hl
    refine lv_iload_n hx hb dX5_layTrial_2 rfl (lv_at hl 1 rfl) ?_
    refine lv_bipush (v := 16) hx hb dX5_layTrial_3 (by decide) ?_
    refine lv_icmp_ge (tgt := 29) hx hb dX5_layTrial_5 (by decide) (fun c_5 => ?_) (fun c_5 => absurd hg_lo0 c_5)
    subst hu
    exact hg_rvE hx hb hr hlk hJ2 hP hD hS dX5_layTrial_29
  · intro k2 hk v2 hJ2 hv w hw ih H locs ls hP hD hS hl
    have hw : w = b_X5_layTrial_2 k2 v2 := by rw [hw, hv]; rfl
    unfold b_X5_layTrial_2 at hw
    have hkb : k2 < 16 := Nat.lt_of_lt_of_le hk (by decide)
    have hP : va_P (dC, dI) vwCl [(o_h, .inr (5, [.int o_players, .int o_bars, .ref o_price, .ref o_breath, .ref o_kind, .ref o_looks, .ref o_noise, .ref o_repeat, .ref o_now, .ref o_readPlayer, .ref o_readBar, .int o_readPlayers, .int o_readBars, .ref o_text, .int o_length, .int o_at, .int o_faultAt, .int o_acts, .int o_next, .ref o_row, .int o_heard, .ref o_heardOf, .ref o_heardBars, .ref o_heardPlays, .int o_hushWho, .int o_hushSum, .long o_seed, .ref o_isKept, .ref o_kept])), (o_now, .inl (cI, 32, .inl v2))] H := hP
    have hD : va_D A [(o_h, .inr (5, [.int o_players, .int o_bars, .ref o_price, .ref o_breath, .ref o_kind, .ref o_looks, .ref o_noise, .ref o_repeat, .ref o_now, .ref o_readPlayer, .ref o_readBar, .int o_readPlayers, .int o_readBars, .ref o_text, .int o_length, .int o_at, .int o_faultAt, .int o_acts, .int o_next, .ref o_row, .int o_heard, .ref o_heardOf, .ref o_heardBars, .ref o_heardPlays, .int o_hushWho, .int o_hushSum, .long o_seed, .ref o_isKept, .ref o_kept])), (o_now, .inl (cI, 32, .inl v2))] := hD
    have hl : lv_has ls 2 [(0, .ref o_h), (1, .int (nI k2))] := hl
    refine lv_iload_n hx hb dX5_layTrial_2 rfl (lv_at hl 1 rfl) ?_
    refine lv_bipush (v := 16) hx hb dX5_layTrial_3 (by decide) ?_
    refine lv_icmp_ge (tgt := 29) hx hb dX5_layTrial_5 (by decide) (fun c_5 => absurd c_5 (hg_lo1 hk)) (fun c_5 => ?_)
    refine lv_aload_n hx hb dX5_layTrial_8 rfl (lv_at hl 0 rfl) ?_
    refine va_get (D := (dC, dI)) (ci := 5) (v := .ref o_now) (C := RX5) (T := TX5) (N := 29) hx hb hts hinX5 hown hK hP 0 rfl rfl 8 (by decide) w1 (fun _ h9 => h9) rfl dX5_layTrial_9 ?_
    refine lv_bipush (v := 16) hx hb dX5_layTrial_12 (by decide) ?_
    refine lv_iload_n hx hb dX5_layTrial_14 rfl (lv_at hl 1 rfl) ?_
    refine lv_iadd hx hb dX5_layTrial_15 ?_
    refine lv_aload_n hx hb dX5_layTrial_16 rfl (lv_at hl 0 rfl) ?_
    refine va_get (D := (dC, dI)) (ci := 5) (v := .ref o_now) (C := RX5) (T := TX5) (N := 29) hx hb hts hinX5 hown hK hP 0 rfl rfl 8 (by decide) w1 (fun _ h9 => h9) rfl dX5_layTrial_17 ?_
    refine lv_iload_n hx hb dX5_layTrial_20 rfl (lv_at hl 1 rfl) ?_
    refine va_iald hx hb hK hP 1 0 rfl rfl (n := 32) (f := v2) (hg_in (n := k2) (N := 32) rfl (by omega) (by decide)) dX5_layTrial_21 ?_
    obtain ⟨y1, ey1, hw⟩ := lxb_o hw
    refine lv_topi (fun z ez => ?_)
    obtain rfl : y1 = z := ey1.trans ez.symm
    refine va_iast hx hb hK hP hD hS 1 0 rfl rfl (n := 32) (f := v2) (hg_in (n := (16 + k2)) (N := 32) (nx_add (show (16 : Int32) = nI 16 from rfl) rfl) (by omega) (by decide)) dX5_layTrial_22 (fun H locs hP hD hS => ?_)
    have hP : va_P (dC, dI) vwCl [(o_h, .inr (5, [.int o_players, .int o_bars, .ref o_price, .ref o_breath, .ref o_kind, .ref o_looks, .ref o_noise, .ref o_repeat, .ref o_now, .ref o_readPlayer, .ref o_readBar, .int o_readPlayers, .int o_readBars, .ref o_text, .int o_length, .int o_at, .int o_faultAt, .int o_acts, .int o_next, .ref o_row, .int o_heard, .ref o_heardOf, .ref o_heardBars, .ref o_heardPlays, .int o_hushWho, .int o_hushSum, .long o_seed, .ref o_isKept, .ref o_kept])), (o_now, .inl (cI, 32, .inl (upd v2 (Int32.toNatClampNeg (16 + nI k2)) y1)))] H := hP
    have hD : va_D A [(o_h, .inr (5, [.int o_players, .int o_bars, .ref o_price, .ref o_breath, .ref o_kind, .ref o_looks, .ref o_noise, .ref o_repeat, .ref o_now, .ref o_readPlayer, .ref o_readBar, .int o_readPlayers, .int o_readBars, .ref o_text, .int o_length, .int o_at, .int o_faultAt, .int o_acts, .int o_next, .ref o_row, .int o_heard, .ref o_heardOf, .ref o_heardBars, .ref o_heardPlays, .int o_hushWho, .int o_hushSum, .long o_seed, .ref o_isKept, .ref o_kept])), (o_now, .inl (cI, 32, .inl (upd v2 (Int32.toNatClampNeg (16 + nI k2)) y1)))] := hD
    have hB2 : mB (upd v2 (Int32.toNatClampNeg (16 + nI k2)) y1) := mB_upd (n := (16 + k2)) hJ2 (nx_add (show (16 : Int32) = nI 16 from rfl) rfl) (by omega) (fun q => mLay ey1 hJ2 q)
    refine lv_iinc (v := nI (k2 + 1)) (lv' := [(1, .int (nI (k2 + 1))), (0, .ref o_h)]) hx hb dX5_layTrial_23 hl (k := 1) rfl (nI_1 k2) (by decide) rfl (fun ls hl => ?_)
    refine lv_goto (tgt := 2) hx hb dX5_layTrial_26 (by decide) ?_
    subst hw
    exact ih hB2 _ _ _ hP hD hS (lv_sub hl [1, 0] rfl)

set_option maxHeartbeats 4000000 in
set_option maxRecDepth 100000 in
theorem c_X5_goOn (l : Launch) (dC : Nat → ClassId) (dI : Nat → Nat → Nat) (cI cZ cM : ClassId) (sz : Nat) (o_h : Nat) (x0 : Int32) (o_players : Int32) (o_bars : Int32) (o_price : Nat) (o_breath : Nat) (o_kind : Nat) (o_looks : Nat) (o_noise : Nat) (o_repeat : Nat) (o_now : Nat) (o_readPlayer : Nat) (o_readBar : Nat) (o_readPlayers : Int32) (o_readBars : Int32) (o_text : Nat) (o_length : Int32) (o_at : Int32) (o_faultAt : Int32) (o_acts : Int32) (o_next : Int32) (o_row : Nat) (o_heard : Int32) (o_heardOf : Nat) (o_heardBars : Nat) (o_heardPlays : Nat) (o_hushWho : Int32) (o_hushSum : Int32) (o_seed : Int64) (o_isKept : Nat) (o_kept : Nat) (o_now_v : Nat → Int32) (o_noise_v : Nat → Int32) (o_kind_v : Nat → Int32) (o_looks_v : Nat → Int32) (o_repeat_v : Nat → Int32) (np : Nat) (enp : o_players = nI np) (hnp : np ≤ 6) (nb : Nat) (enb : o_bars = nI nb) (hnb : nb ≤ 8) (hB : mB o_now_v) (u : Int32 × (Nat → Int32)) (hu : u = f_X5_goOn x0 o_players o_bars o_now_v o_noise_v o_kind_v o_looks_v o_repeat_v) : Met l yX5_goOn wsX5_goOn { frames := 5, cells := 0, slots := 0, locals := 117 } (hgPc [.ref o_h, .int x0] (dC, dI) cI cZ cM [(o_h, .inr (5, [.int o_players, .int o_bars, .ref o_price, .ref o_breath, .ref o_kind, .ref o_looks, .ref o_noise, .ref o_repeat, .ref o_now, .ref o_readPlayer, .ref o_readBar, .int o_readPlayers, .int o_readBars, .ref o_text, .int o_length, .int o_at, .int o_faultAt, .int o_acts, .int o_next, .ref o_row, .int o_heard, .ref o_heardOf, .ref o_heardBars, .ref o_heardPlays, .int o_hushWho, .int o_hushSum, .long o_seed, .ref o_isKept, .ref o_kept])), (o_now, .inl (cI, 32, .inl o_now_v)), (o_noise, .inl (cI, 8, .inl o_noise_v)), (o_kind, .inl (cI, 6, .inl o_kind_v)), (o_looks, .inl (cI, 6, .inl o_looks_v)), (o_repeat, .inl (cI, 8, .inl o_repeat_v))] sz) (hgQiE (dC, dI) u.1 [(o_h, .inr (5, [.int o_players, .int o_bars, .ref o_price, .ref o_breath, .ref o_kind, .ref o_looks, .ref o_noise, .ref o_repeat, .ref o_now, .ref o_readPlayer, .ref o_readBar, .int o_readPlayers, .int o_readBars, .ref o_text, .int o_length, .int o_at, .int o_faultAt, .int o_acts, .int o_next, .ref o_row, .int o_heard, .ref o_heardOf, .ref o_heardBars, .ref o_heardPlays, .int o_hushWho, .int o_hushSum, .long o_seed, .ref o_isKept, .ref o_kept])), (o_now, .inl (cI, 32, .inl u.2)), (o_noise, .inl (cI, 8, .inl o_noise_v)), (o_kind, .inl (cI, 6, .inl o_kind_v)), (o_looks, .inl (cI, 6, .inl o_looks_v)), (o_repeat, .inl (cI, 8, .inl o_repeat_v))] (mB u.2) (va_A [(o_h, .inr (5, [.int o_players, .int o_bars, .ref o_price, .ref o_breath, .ref o_kind, .ref o_looks, .ref o_noise, .ref o_repeat, .ref o_now, .ref o_readPlayer, .ref o_readBar, .int o_readPlayers, .int o_readBars, .ref o_text, .int o_length, .int o_at, .int o_faultAt, .int o_acts, .int o_next, .ref o_row, .int o_heard, .ref o_heardOf, .ref o_heardBars, .ref o_heardPlays, .int o_hushWho, .int o_hushSum, .long o_seed, .ref o_isKept, .ref o_kept])), (o_now, .inl (cI, 32, .inl o_now_v)), (o_noise, .inl (cI, 8, .inl o_noise_v)), (o_kind, .inl (cI, 6, .inl o_kind_v)), (o_looks, .inl (cI, 6, .inl o_looks_v)), (o_repeat, .inl (cI, 8, .inl o_repeat_v))] sz)) 0 0 (va_A [(o_h, .inr (5, [.int o_players, .int o_bars, .ref o_price, .ref o_breath, .ref o_kind, .ref o_looks, .ref o_noise, .ref o_repeat, .ref o_now, .ref o_readPlayer, .ref o_readBar, .int o_readPlayers, .int o_readBars, .ref o_text, .int o_length, .int o_at, .int o_faultAt, .int o_acts, .int o_next, .ref o_row, .int o_heard, .ref o_heardOf, .ref o_heardBars, .ref o_heardPlays, .int o_hushWho, .int o_hushSum, .long o_seed, .ref o_isKept, .ref o_kept])), (o_now, .inl (cI, 32, .inl o_now_v)), (o_noise, .inl (cI, 8, .inl o_noise_v)), (o_kind, .inl (cI, 6, .inl o_kind_v)), (o_looks, .inl (cI, 6, .inl o_looks_v)), (o_repeat, .inl (cI, 8, .inl o_repeat_v))] sz) := by
  refine hg_ofW (cc := cX5_goOn) (maxL := 4) (ret := (some .int)) (own := RX5) (fun A => hgQiE (dC, dI) u.1 [(o_h, .inr (5, [.int o_players, .int o_bars, .ref o_price, .ref o_breath, .ref o_kind, .ref o_looks, .ref o_noise, .ref o_repeat, .ref o_now, .ref o_readPlayer, .ref o_readBar, .int o_readPlayers, .int o_readBars, .ref o_text, .int o_length, .int o_at, .int o_faultAt, .int o_acts, .int o_next, .ref o_row, .int o_heard, .ref o_heardOf, .ref o_heardBars, .ref o_heardPlays, .int o_hushWho, .int o_hushSum, .long o_seed, .ref o_isKept, .ref o_kept])), (o_now, .inl (cI, 32, .inl u.2)), (o_noise, .inl (cI, 8, .inl o_noise_v)), (o_kind, .inl (cI, 6, .inl o_kind_v)), (o_looks, .inl (cI, 6, .inl o_looks_v)), (o_repeat, .inl (cI, 8, .inl o_repeat_v))] (mB u.2) A) rfl (by decide) rfl (Nat.le_of_ble_eq_true rfl) ?_
  intro p e s m below meth c ls A hsz hx hb hr hml hown hts hlk hnm hK hN hA hP hD hS hl
  subst hsz
  have hl : lv_has ls 4 [(0, .ref o_h), (1, .int x0)] := hl
  unfold f_X5_goOn at hu
  refine lv_iconst (v := 0) hx hb dX5_goOn_0 (by decide) ?_
  refine lv_istore_n (lv' := [(2, .int 0), (0, .ref o_h), (1, .int x0)]) hx hb dX5_goOn_1 rfl hl (by decide) rfl (fun ls hl => ?_)
  refine lv_iconst (v := 0) hx hb dX5_goOn_2 (by decide) ?_
  refine lv_istore_n (lv' := [(3, .int 0), (2, .int 0), (0, .ref o_h), (1, .int x0)]) hx hb dX5_goOn_3 rfl hl (by decide) rfl (fun ls hl => ?_)
  obtain ⟨r3, er3, hu⟩ := lxb_o hu
  refine hg_loopFJ (T := Int32 × (Nat → Int32)) (N := (itn 0 x0)) (fun v4 => (mB v4.2)) (fun v4 => [(o_h, .inr (5, [.int o_players, .int o_bars, .ref o_price, .ref o_breath, .ref o_kind, .ref o_looks, .ref o_noise, .ref o_repeat, .ref o_now, .ref o_readPlayer, .ref o_readBar, .int o_readPlayers, .int o_readBars, .ref o_text, .int o_length, .int o_at, .int o_faultAt, .int o_acts, .int o_next, .ref o_row, .int o_heard, .ref o_heardOf, .ref o_heardBars, .ref o_heardPlays, .int o_hushWho, .int o_hushSum, .long o_seed, .ref o_isKept, .ref o_kept])), (o_now, .inl (cI, 32, .inl v4.2)), (o_noise, .inl (cI, 8, .inl o_noise_v)), (o_kind, .inl (cI, 6, .inl o_kind_v)), (o_looks, .inl (cI, 6, .inl o_looks_v)), (o_repeat, .inl (cI, 8, .inl o_repeat_v))]) (fun k4 v4 => [(0, .ref o_h), (1, .int x0), (2, .int v4.1), (3, .int (nI k4))]) (fun k4 => l_X5_goOn_4 o_players o_bars o_noise_v o_kind_v o_looks_v o_repeat_v (0, o_now_v) k4) hB ?_ ?_ hP hD hS (lv_sub hl [2, 3, 1, 0] rfl)
  · intro v4 hJ4 hv H locs ls hP hD hS hl
    obtain rfl : r3 = v4 := er3.trans hv.symm
    have hP : va_P (dC, dI) vwCl [(o_h, .inr (5, [.int o_players, .int o_bars, .ref o_price, .ref o_breath, .ref o_kind, .ref o_looks, .ref o_noise, .ref o_repeat, .ref o_now, .ref o_readPlayer, .ref o_readBar, .int o_readPlayers, .int o_readBars, .ref o_text, .int o_length, .int o_at, .int o_faultAt, .int o_acts, .int o_next, .ref o_row, .int o_heard, .ref o_heardOf, .ref o_heardBars, .ref o_heardPlays, .int o_hushWho, .int o_hushSum, .long o_seed, .ref o_isKept, .ref o_kept])), (o_now, .inl (cI, 32, .inl r3.2)), (o_noise, .inl (cI, 8, .inl o_noise_v)), (o_kind, .inl (cI, 6, .inl o_kind_v)), (o_looks, .inl (cI, 6, .inl o_looks_v)), (o_repeat, .inl (cI, 8, .inl o_repeat_v))] H := hP
    have hD : va_D A [(o_h, .inr (5, [.int o_players, .int o_bars, .ref o_price, .ref o_breath, .ref o_kind, .ref o_looks, .ref o_noise, .ref o_repeat, .ref o_now, .ref o_readPlayer, .ref o_readBar, .int o_readPlayers, .int o_readBars, .ref o_text, .int o_length, .int o_at, .int o_faultAt, .int o_acts, .int o_next, .ref o_row, .int o_heard, .ref o_heardOf, .ref o_heardBars, .ref o_heardPlays, .int o_hushWho, .int o_hushSum, .long o_seed, .ref o_isKept, .ref o_kept])), (o_now, .inl (cI, 32, .inl r3.2)), (o_noise, .inl (cI, 8, .inl o_noise_v)), (o_kind, .inl (cI, 6, .inl o_kind_v)), (o_looks, .inl (cI, 6, .inl o_looks_v)), (o_repeat, .inl (cI, 8, .inl o_repeat_v))] := hD
    have hl : lv_has ls 4 [(0, .ref o_h), (1, .int x0), (2, .int r3.1), (3, .int (nI (itn 0 x0)))] := hl
    refine lv_iload_n hx hb dX5_goOn_4 rfl (lv_at hl 3 rfl) ?_
    refine lv_iload_n hx hb dX5_goOn_5 rfl (lv_at hl 1 rfl) ?_
    refine lv_icmp_ge (tgt := 23) hx hb dX5_goOn_6 (by decide) (fun c_6 => ?_) (fun c_6 => absurd hg_lo0 c_6)
    refine lv_iload_n hx hb dX5_goOn_23 rfl (lv_at hl 2 rfl) ?_
    subst hu
    exact hg_riE hx hb hr hlk rfl hJ4 hP hD hS dX5_goOn_24
  · intro k4 hk v4 hJ4 hv w hw ih H locs ls hP hD hS hl
    have hw : w = b_X5_goOn_4 o_players o_bars o_noise_v o_kind_v o_looks_v o_repeat_v k4 v4 := by rw [hw, hv]; rfl
    unfold b_X5_goOn_4 at hw
    have hP : va_P (dC, dI) vwCl [(o_h, .inr (5, [.int o_players, .int o_bars, .ref o_price, .ref o_breath, .ref o_kind, .ref o_looks, .ref o_noise, .ref o_repeat, .ref o_now, .ref o_readPlayer, .ref o_readBar, .int o_readPlayers, .int o_readBars, .ref o_text, .int o_length, .int o_at, .int o_faultAt, .int o_acts, .int o_next, .ref o_row, .int o_heard, .ref o_heardOf, .ref o_heardBars, .ref o_heardPlays, .int o_hushWho, .int o_hushSum, .long o_seed, .ref o_isKept, .ref o_kept])), (o_now, .inl (cI, 32, .inl v4.2)), (o_noise, .inl (cI, 8, .inl o_noise_v)), (o_kind, .inl (cI, 6, .inl o_kind_v)), (o_looks, .inl (cI, 6, .inl o_looks_v)), (o_repeat, .inl (cI, 8, .inl o_repeat_v))] H := hP
    have hD : va_D A [(o_h, .inr (5, [.int o_players, .int o_bars, .ref o_price, .ref o_breath, .ref o_kind, .ref o_looks, .ref o_noise, .ref o_repeat, .ref o_now, .ref o_readPlayer, .ref o_readBar, .int o_readPlayers, .int o_readBars, .ref o_text, .int o_length, .int o_at, .int o_faultAt, .int o_acts, .int o_next, .ref o_row, .int o_heard, .ref o_heardOf, .ref o_heardBars, .ref o_heardPlays, .int o_hushWho, .int o_hushSum, .long o_seed, .ref o_isKept, .ref o_kept])), (o_now, .inl (cI, 32, .inl v4.2)), (o_noise, .inl (cI, 8, .inl o_noise_v)), (o_kind, .inl (cI, 6, .inl o_kind_v)), (o_looks, .inl (cI, 6, .inl o_looks_v)), (o_repeat, .inl (cI, 8, .inl o_repeat_v))] := hD
    have hl : lv_has ls 4 [(0, .ref o_h), (1, .int x0), (2, .int v4.1), (3, .int (nI k4))] := hl
    refine lv_iload_n hx hb dX5_goOn_4 rfl (lv_at hl 3 rfl) ?_
    refine lv_iload_n hx hb dX5_goOn_5 rfl (lv_at hl 1 rfl) ?_
    refine lv_icmp_ge (tgt := 23) hx hb dX5_goOn_6 (by decide) (fun c_6 => absurd c_6 (hg_lo1 hk)) (fun c_6 => ?_)
    refine lv_iload_n hx hb dX5_goOn_9 rfl (lv_at hl 2 rfl) ?_
    refine lv_aload_n hx hb dX5_goOn_10 rfl (lv_at hl 0 rfl) ?_
    refine lv_iconst (v := 1) hx hb dX5_goOn_11 (by decide) ?_
    obtain ⟨r1, er1, hw⟩ := lxb_o hw
    refine hg_ciE (va_runV (As := [.int 1]) (rest := [.int v4.1]) ⟨hx, hb, hml, hown, hts⟩ (c_X5_passOn l dC dI cI cZ cM _ o_h 1 o_players o_bars o_price o_breath o_kind o_looks o_noise o_repeat o_now o_readPlayer o_readBar o_readPlayers o_readBars o_text o_length o_at o_faultAt o_acts o_next o_row o_heard o_heardOf o_heardBars o_heardPlays o_hushWho o_hushSum o_seed o_isKept o_kept v4.2 o_noise_v o_kind_v o_looks_v o_repeat_v np enp (by omega) nb enb (by omega) 1 (show (1 : Int32) = nI 1 from rfl) (by omega) hJ4 r1 er1) (cwV 1 hts gX5_goOn_X5_passOn rfl rfl rfl (by decide +kernel) ⟨Nat.le_of_ble_eq_true rfl, Nat.le_of_ble_eq_true rfl⟩) (hgPreV (C := RX5) (T := TX5) (N := 29) (ci := 5) (q0 := 0) hP hD hK hN [0, 1, 2, 3, 4, 5] rfl rfl rfl rfl) rfl rfl hl.1 rfl (lv_room (Nat.le_of_ble_eq_true rfl)) dX5_goOn_12 ⟨Nat.zero_le _, Nat.zero_le _⟩) hP hD hS hA (wr := []) (wf := [(o_h, .inr (5, [.int o_players, .int o_bars, .ref o_price, .ref o_breath, .ref o_kind, .ref o_looks, .ref o_noise, .ref o_repeat, .ref o_now, .ref o_readPlayer, .ref o_readBar, .int o_readPlayers, .int o_readBars, .ref o_text, .int o_length, .int o_at, .int o_faultAt, .int o_acts, .int o_next, .ref o_row, .int o_heard, .ref o_heardOf, .ref o_heardBars, .ref o_heardPlays, .int o_hushWho, .int o_hushSum, .long o_seed, .ref o_isKept, .ref o_kept])), (o_now, .inl (cI, 32, .inl r1.2)), (o_noise, .inl (cI, 8, .inl o_noise_v)), (o_kind, .inl (cI, 6, .inl o_kind_v)), (o_looks, .inl (cI, 6, .inl o_looks_v)), (o_repeat, .inl (cI, 8, .inl o_repeat_v))]) [0, 1, 2, 3, 4, 5] [] [0, 1, 2, 3, 4, 5] rfl rfl rfl (by decide) rfl rfl (fun hB2 H locs hP hD hS => ?_)
    refine lv_iadd hx hb dX5_goOn_15 ?_
    refine lv_istore_n (lv' := [(2, .int (v4.1 + r1.1)), (0, .ref o_h), (1, .int x0), (3, .int (nI k4))]) hx hb dX5_goOn_16 rfl hl (by decide) rfl (fun ls hl => ?_)
    refine lv_iinc (v := nI (k4 + 1)) (lv' := [(3, .int (nI (k4 + 1))), (2, .int (v4.1 + r1.1)), (0, .ref o_h), (1, .int x0)]) hx hb dX5_goOn_17 hl (k := 3) rfl (nI_1 k4) (by decide) rfl (fun ls hl => ?_)
    refine lv_goto (tgt := 4) hx hb dX5_goOn_20 (by decide) ?_
    subst hw
    exact ih hB2 _ _ _ hP hD hS (lv_sub hl [2, 3, 1, 0] rfl)

set_option maxHeartbeats 4000000 in
set_option maxRecDepth 100000 in
theorem c_X5_later (l : Launch) (dC : Nat → ClassId) (dI : Nat → Nat → Nat) (cI cZ cM : ClassId) (sz : Nat) (o_h : Nat) (x0 : Int32) (x1 : Int32) (o_players : Int32) (o_bars : Int32) (o_price : Nat) (o_breath : Nat) (o_kind : Nat) (o_looks : Nat) (o_noise : Nat) (o_repeat : Nat) (o_now : Nat) (o_readPlayer : Nat) (o_readBar : Nat) (o_readPlayers : Int32) (o_readBars : Int32) (o_text : Nat) (o_length : Int32) (o_at : Int32) (o_faultAt : Int32) (o_acts : Int32) (o_next : Int32) (o_row : Nat) (o_heard : Int32) (o_heardOf : Nat) (o_heardBars : Nat) (o_heardPlays : Nat) (o_hushWho : Int32) (o_hushSum : Int32) (o_seed : Int64) (o_isKept : Nat) (o_kept : Nat) (o_now_v : Nat → Int32) (o_noise_v : Nat → Int32) (o_kind_v : Nat → Int32) (o_looks_v : Nat → Int32) (o_repeat_v : Nat → Int32) (np : Nat) (enp : o_players = nI np) (hnp : np ≤ 6) (nb : Nat) (enb : o_bars = nI nb) (hnb : nb ≤ 8) (hB : mB o_now_v) (u : Int32 × (Nat → Int32)) (hu : u = f_X5_later x0 x1 o_players o_bars o_now_v o_noise_v o_kind_v o_looks_v o_repeat_v) : Met l yX5_later wsX5_later { frames := 6, cells := 0, slots := 0, locals := 140 } (hgPc [.ref o_h, .int x0, .int x1] (dC, dI) cI cZ cM [(o_h, .inr (5, [.int o_players, .int o_bars, .ref o_price, .ref o_breath, .ref o_kind, .ref o_looks, .ref o_noise, .ref o_repeat, .ref o_now, .ref o_readPlayer, .ref o_readBar, .int o_readPlayers, .int o_readBars, .ref o_text, .int o_length, .int o_at, .int o_faultAt, .int o_acts, .int o_next, .ref o_row, .int o_heard, .ref o_heardOf, .ref o_heardBars, .ref o_heardPlays, .int o_hushWho, .int o_hushSum, .long o_seed, .ref o_isKept, .ref o_kept])), (o_now, .inl (cI, 32, .inl o_now_v)), (o_noise, .inl (cI, 8, .inl o_noise_v)), (o_kind, .inl (cI, 6, .inl o_kind_v)), (o_looks, .inl (cI, 6, .inl o_looks_v)), (o_repeat, .inl (cI, 8, .inl o_repeat_v))] sz) (hgQi (dC, dI) u.1 [(o_h, .inr (5, [.int o_players, .int o_bars, .ref o_price, .ref o_breath, .ref o_kind, .ref o_looks, .ref o_noise, .ref o_repeat, .ref o_now, .ref o_readPlayer, .ref o_readBar, .int o_readPlayers, .int o_readBars, .ref o_text, .int o_length, .int o_at, .int o_faultAt, .int o_acts, .int o_next, .ref o_row, .int o_heard, .ref o_heardOf, .ref o_heardBars, .ref o_heardPlays, .int o_hushWho, .int o_hushSum, .long o_seed, .ref o_isKept, .ref o_kept])), (o_now, .inl (cI, 32, .inl u.2)), (o_noise, .inl (cI, 8, .inl o_noise_v)), (o_kind, .inl (cI, 6, .inl o_kind_v)), (o_looks, .inl (cI, 6, .inl o_looks_v)), (o_repeat, .inl (cI, 8, .inl o_repeat_v))] (va_A [(o_h, .inr (5, [.int o_players, .int o_bars, .ref o_price, .ref o_breath, .ref o_kind, .ref o_looks, .ref o_noise, .ref o_repeat, .ref o_now, .ref o_readPlayer, .ref o_readBar, .int o_readPlayers, .int o_readBars, .ref o_text, .int o_length, .int o_at, .int o_faultAt, .int o_acts, .int o_next, .ref o_row, .int o_heard, .ref o_heardOf, .ref o_heardBars, .ref o_heardPlays, .int o_hushWho, .int o_hushSum, .long o_seed, .ref o_isKept, .ref o_kept])), (o_now, .inl (cI, 32, .inl o_now_v)), (o_noise, .inl (cI, 8, .inl o_noise_v)), (o_kind, .inl (cI, 6, .inl o_kind_v)), (o_looks, .inl (cI, 6, .inl o_looks_v)), (o_repeat, .inl (cI, 8, .inl o_repeat_v))] sz)) 0 0 (va_A [(o_h, .inr (5, [.int o_players, .int o_bars, .ref o_price, .ref o_breath, .ref o_kind, .ref o_looks, .ref o_noise, .ref o_repeat, .ref o_now, .ref o_readPlayer, .ref o_readBar, .int o_readPlayers, .int o_readBars, .ref o_text, .int o_length, .int o_at, .int o_faultAt, .int o_acts, .int o_next, .ref o_row, .int o_heard, .ref o_heardOf, .ref o_heardBars, .ref o_heardPlays, .int o_hushWho, .int o_hushSum, .long o_seed, .ref o_isKept, .ref o_kept])), (o_now, .inl (cI, 32, .inl o_now_v)), (o_noise, .inl (cI, 8, .inl o_noise_v)), (o_kind, .inl (cI, 6, .inl o_kind_v)), (o_looks, .inl (cI, 6, .inl o_looks_v)), (o_repeat, .inl (cI, 8, .inl o_repeat_v))] sz) := by
  refine hg_ofW (cc := cX5_later) (maxL := 3) (ret := (some .int)) (own := RX5) (fun A => hgQi (dC, dI) u.1 [(o_h, .inr (5, [.int o_players, .int o_bars, .ref o_price, .ref o_breath, .ref o_kind, .ref o_looks, .ref o_noise, .ref o_repeat, .ref o_now, .ref o_readPlayer, .ref o_readBar, .int o_readPlayers, .int o_readBars, .ref o_text, .int o_length, .int o_at, .int o_faultAt, .int o_acts, .int o_next, .ref o_row, .int o_heard, .ref o_heardOf, .ref o_heardBars, .ref o_heardPlays, .int o_hushWho, .int o_hushSum, .long o_seed, .ref o_isKept, .ref o_kept])), (o_now, .inl (cI, 32, .inl u.2)), (o_noise, .inl (cI, 8, .inl o_noise_v)), (o_kind, .inl (cI, 6, .inl o_kind_v)), (o_looks, .inl (cI, 6, .inl o_looks_v)), (o_repeat, .inl (cI, 8, .inl o_repeat_v))] A) rfl (by decide) rfl (Nat.le_of_ble_eq_true rfl) ?_
  intro p e s m below meth c ls A hsz hx hb hr hml hown hts hlk hnm hK hN hA hP hD hS hl
  subst hsz
  have w1 := hts (.constantLong RX5 162 (30)) (List.mem_of_getElem? (i := 1) rfl)
  have hl : lv_has ls 3 [(0, .ref o_h), (1, .int x0), (2, .int x1)] := hl
  unfold f_X5_later at hu
  refine lv_iload_n hx hb dX5_later_0 rfl (lv_at hl 1 rfl) ?_
  refine lv_i2l (v := (Int32.toInt64 x0)) hx hb dX5_later_1 rfl ?_
  refine lv_lconst (v := 0) hx hb dX5_later_2 (by decide) ?_
  refine lv_ldc2 (v := 30) hx hb hown w1 dX5_later_3 ?_
  obtain ⟨r1, er1, hu⟩ := lxb_o hu
  refine hg_ci (va_runS (As := [.long (Int32.toInt64 x0), .long 0, .long 30]) (rest := []) ⟨hx, hb, hml, hown, hts⟩ (c_X5_in l dC dI cI cZ cM _ (Int32.toInt64 x0) 0 30 r1 er1) (va_cwS 3 hts gX5_later_X5_in rfl rfl rfl (by decide +kernel) ⟨Nat.le_of_ble_eq_true rfl, Nat.le_of_ble_eq_true rfl⟩) (hgPreS hP hD hK hN [] rfl rfl) rfl rfl hl.1 rfl (lv_room (Nat.le_of_ble_eq_true rfl)) dX5_later_6 ⟨Nat.zero_le _, Nat.zero_le _⟩) hP hD hS hA (wr := [(o_h, .inr (5, [.int o_players, .int o_bars, .ref o_price, .ref o_breath, .ref o_kind, .ref o_looks, .ref o_noise, .ref o_repeat, .ref o_now, .ref o_readPlayer, .ref o_readBar, .int o_readPlayers, .int o_readBars, .ref o_text, .int o_length, .int o_at, .int o_faultAt, .int o_acts, .int o_next, .ref o_row, .int o_heard, .ref o_heardOf, .ref o_heardBars, .ref o_heardPlays, .int o_hushWho, .int o_hushSum, .long o_seed, .ref o_isKept, .ref o_kept])), (o_now, .inl (cI, 32, .inl o_now_v)), (o_noise, .inl (cI, 8, .inl o_noise_v)), (o_kind, .inl (cI, 6, .inl o_kind_v)), (o_looks, .inl (cI, 6, .inl o_looks_v)), (o_repeat, .inl (cI, 8, .inl o_repeat_v))]) (wf := [(o_h, .inr (5, [.int o_players, .int o_bars, .ref o_price, .ref o_breath, .ref o_kind, .ref o_looks, .ref o_noise, .ref o_repeat, .ref o_now, .ref o_readPlayer, .ref o_readBar, .int o_readPlayers, .int o_readBars, .ref o_text, .int o_length, .int o_at, .int o_faultAt, .int o_acts, .int o_next, .ref o_row, .int o_heard, .ref o_heardOf, .ref o_heardBars, .ref o_heardPlays, .int o_hushWho, .int o_hushSum, .long o_seed, .ref o_isKept, .ref o_kept])), (o_now, .inl (cI, 32, .inl o_now_v)), (o_noise, .inl (cI, 8, .inl o_noise_v)), (o_kind, .inl (cI, 6, .inl o_kind_v)), (o_looks, .inl (cI, 6, .inl o_looks_v)), (o_repeat, .inl (cI, 8, .inl o_repeat_v))]) [] [0, 1, 2, 3, 4, 5] [0, 1, 2, 3, 4, 5] rfl rfl rfl (by decide) rfl rfl (fun H locs hP hD hS => ?_)
  refine lv_if_eq (tgt := 22) hx hb dX5_later_9 (by decide) (fun c_9 => ?_) (fun c_9 => ?_)
  · have hu := hu.trans (if_pos c_9)
    refine lv_bipush (v := (-2)) hx hb dX5_later_22 (by decide) ?_
    subst hu
    exact hg_ri hx hb hr hlk rfl hP hD hS dX5_later_24
  · have hu := hu.trans (if_neg c_9)
    refine lv_iload_n hx hb dX5_later_12 rfl (lv_at hl 2 rfl) ?_
    refine lv_i2l (v := (Int32.toInt64 x1)) hx hb dX5_later_13 rfl ?_
    refine lv_lconst (v := 0) hx hb dX5_later_14 (by decide) ?_
    refine lv_lconst (v := 1) hx hb dX5_later_15 (by decide) ?_
    obtain ⟨r2, er2, hu⟩ := lxb_o hu
    refine hg_ci (va_runS (As := [.long (Int32.toInt64 x1), .long 0, .long 1]) (rest := []) ⟨hx, hb, hml, hown, hts⟩ (c_X5_in l dC dI cI cZ cM _ (Int32.toInt64 x1) 0 1 r2 er2) (va_cwS 3 hts gX5_later_X5_in rfl rfl rfl (by decide +kernel) ⟨Nat.le_of_ble_eq_true rfl, Nat.le_of_ble_eq_true rfl⟩) (hgPreS hP hD hK hN [] rfl rfl) rfl rfl hl.1 rfl (lv_room (Nat.le_of_ble_eq_true rfl)) dX5_later_16 ⟨Nat.zero_le _, Nat.zero_le _⟩) hP hD hS hA (wr := [(o_h, .inr (5, [.int o_players, .int o_bars, .ref o_price, .ref o_breath, .ref o_kind, .ref o_looks, .ref o_noise, .ref o_repeat, .ref o_now, .ref o_readPlayer, .ref o_readBar, .int o_readPlayers, .int o_readBars, .ref o_text, .int o_length, .int o_at, .int o_faultAt, .int o_acts, .int o_next, .ref o_row, .int o_heard, .ref o_heardOf, .ref o_heardBars, .ref o_heardPlays, .int o_hushWho, .int o_hushSum, .long o_seed, .ref o_isKept, .ref o_kept])), (o_now, .inl (cI, 32, .inl o_now_v)), (o_noise, .inl (cI, 8, .inl o_noise_v)), (o_kind, .inl (cI, 6, .inl o_kind_v)), (o_looks, .inl (cI, 6, .inl o_looks_v)), (o_repeat, .inl (cI, 8, .inl o_repeat_v))]) (wf := [(o_h, .inr (5, [.int o_players, .int o_bars, .ref o_price, .ref o_breath, .ref o_kind, .ref o_looks, .ref o_noise, .ref o_repeat, .ref o_now, .ref o_readPlayer, .ref o_readBar, .int o_readPlayers, .int o_readBars, .ref o_text, .int o_length, .int o_at, .int o_faultAt, .int o_acts, .int o_next, .ref o_row, .int o_heard, .ref o_heardOf, .ref o_heardBars, .ref o_heardPlays, .int o_hushWho, .int o_hushSum, .long o_seed, .ref o_isKept, .ref o_kept])), (o_now, .inl (cI, 32, .inl o_now_v)), (o_noise, .inl (cI, 8, .inl o_noise_v)), (o_kind, .inl (cI, 6, .inl o_kind_v)), (o_looks, .inl (cI, 6, .inl o_looks_v)), (o_repeat, .inl (cI, 8, .inl o_repeat_v))]) [] [0, 1, 2, 3, 4, 5] [0, 1, 2, 3, 4, 5] rfl rfl rfl (by decide) rfl rfl (fun H locs hP hD hS => ?_)
    refine lv_if_ne (tgt := 25) hx hb dX5_later_19 (by decide) (fun c_19 => ?_) (fun c_19 => ?_)
    · have hu := hu.trans (if_neg c_19)
      refine lv_aload_n hx hb dX5_later_25 rfl (lv_at hl 0 rfl) ?_
      obtain ⟨r3, er3, hu⟩ := lxb_o hu
      refine hg_cvE (va_runV (As := []) (rest := []) ⟨hx, hb, hml, hown, hts⟩ (c_X5_layTrial l dC dI cI cZ cM _ o_h o_players o_bars o_price o_breath o_kind o_looks o_noise o_repeat o_now o_readPlayer o_readBar o_readPlayers o_readBars o_text o_length o_at o_faultAt o_acts o_next o_row o_heard o_heardOf o_heardBars o_heardPlays o_hushWho o_hushSum o_seed o_isKept o_kept o_now_v np enp (by omega) nb enb (by omega) hB r3 er3) (cwV 0 hts gX5_later_X5_layTrial rfl rfl rfl (by decide +kernel) ⟨Nat.le_of_ble_eq_true rfl, Nat.le_of_ble_eq_true rfl⟩) (hgPreV (C := RX5) (T := TX5) (N := 29) (ci := 5) (q0 := 0) hP hD hK hN [0, 1] rfl rfl rfl rfl) rfl rfl hl.1 rfl (lv_room (Nat.le_of_ble_eq_true rfl)) dX5_later_26 ⟨Nat.zero_le _, Nat.zero_le _⟩) hP hD hS hA (wr := [(o_noise, .inl (cI, 8, .inl o_noise_v)), (o_kind, .inl (cI, 6, .inl o_kind_v)), (o_looks, .inl (cI, 6, .inl o_looks_v)), (o_repeat, .inl (cI, 8, .inl o_repeat_v))]) (wf := [(o_h, .inr (5, [.int o_players, .int o_bars, .ref o_price, .ref o_breath, .ref o_kind, .ref o_looks, .ref o_noise, .ref o_repeat, .ref o_now, .ref o_readPlayer, .ref o_readBar, .int o_readPlayers, .int o_readBars, .ref o_text, .int o_length, .int o_at, .int o_faultAt, .int o_acts, .int o_next, .ref o_row, .int o_heard, .ref o_heardOf, .ref o_heardBars, .ref o_heardPlays, .int o_hushWho, .int o_hushSum, .long o_seed, .ref o_isKept, .ref o_kept])), (o_now, .inl (cI, 32, .inl r3)), (o_noise, .inl (cI, 8, .inl o_noise_v)), (o_kind, .inl (cI, 6, .inl o_kind_v)), (o_looks, .inl (cI, 6, .inl o_looks_v)), (o_repeat, .inl (cI, 8, .inl o_repeat_v))]) [0, 1] [2, 3, 4, 5] [4, 5, 0, 1, 2, 3] rfl rfl rfl (by decide) rfl rfl (fun hB4 H locs hP hD hS => ?_)
      refine lv_aload_n hx hb dX5_later_29 rfl (lv_at hl 0 rfl) ?_
      refine lv_iload_n hx hb dX5_later_30 rfl (lv_at hl 1 rfl) ?_
      obtain ⟨r5, er5, hu⟩ := lxb_o hu
      refine hg_ciE (va_runV (As := [.int x0]) (rest := []) ⟨hx, hb, hml, hown, hts⟩ (c_X5_goOn l dC dI cI cZ cM _ o_h x0 o_players o_bars o_price o_breath o_kind o_looks o_noise o_repeat o_now o_readPlayer o_readBar o_readPlayers o_readBars o_text o_length o_at o_faultAt o_acts o_next o_row o_heard o_heardOf o_heardBars o_heardPlays o_hushWho o_hushSum o_seed o_isKept o_kept r3 o_noise_v o_kind_v o_looks_v o_repeat_v np enp (by omega) nb enb (by omega) hB4 r5 er5) (cwV 1 hts gX5_later_X5_goOn rfl rfl rfl (by decide +kernel) ⟨Nat.le_of_ble_eq_true rfl, Nat.le_of_ble_eq_true rfl⟩) (hgPreV (C := RX5) (T := TX5) (N := 29) (ci := 5) (q0 := 0) hP hD hK hN [0, 1, 2, 3, 4, 5] rfl rfl rfl rfl) rfl rfl hl.1 rfl (lv_room (Nat.le_of_ble_eq_true rfl)) dX5_later_31 ⟨Nat.zero_le _, Nat.zero_le _⟩) hP hD hS hA (wr := []) (wf := [(o_h, .inr (5, [.int o_players, .int o_bars, .ref o_price, .ref o_breath, .ref o_kind, .ref o_looks, .ref o_noise, .ref o_repeat, .ref o_now, .ref o_readPlayer, .ref o_readBar, .int o_readPlayers, .int o_readBars, .ref o_text, .int o_length, .int o_at, .int o_faultAt, .int o_acts, .int o_next, .ref o_row, .int o_heard, .ref o_heardOf, .ref o_heardBars, .ref o_heardPlays, .int o_hushWho, .int o_hushSum, .long o_seed, .ref o_isKept, .ref o_kept])), (o_now, .inl (cI, 32, .inl r5.2)), (o_noise, .inl (cI, 8, .inl o_noise_v)), (o_kind, .inl (cI, 6, .inl o_kind_v)), (o_looks, .inl (cI, 6, .inl o_looks_v)), (o_repeat, .inl (cI, 8, .inl o_repeat_v))]) [0, 1, 2, 3, 4, 5] [] [0, 1, 2, 3, 4, 5] rfl rfl rfl (by decide) rfl rfl (fun hB6 H locs hP hD hS => ?_)
      refine lv_pop hx hb dX5_later_34 rfl ?_
      refine lv_iload_n hx hb dX5_later_35 rfl (lv_at hl 2 rfl) ?_
      refine lv_if_ne (tgt := 48) hx hb dX5_later_36 (by decide) (fun c_36 => ?_) (fun c_36 => ?_)
      · have hu := hu.trans (if_neg c_36)
        refine lv_aload_n hx hb dX5_later_48 rfl (lv_at hl 0 rfl) ?_
        refine lv_iconst (v := 1) hx hb dX5_later_49 (by decide) ?_
        obtain ⟨r7, er7, hu⟩ := lxb_o hu
        refine hg_ci (va_runV (As := [.int 1]) (rest := []) ⟨hx, hb, hml, hown, hts⟩ (c_X5_nextBar l dC dI cI cZ cM _ o_h 1 o_players o_bars o_price o_breath o_kind o_looks o_noise o_repeat o_now o_readPlayer o_readBar o_readPlayers o_readBars o_text o_length o_at o_faultAt o_acts o_next o_row o_heard o_heardOf o_heardBars o_heardPlays o_hushWho o_hushSum o_seed o_isKept o_kept r5.2 np enp (by omega) nb enb (by omega) 1 (show (1 : Int32) = nI 1 from rfl) (by omega) r7 er7) (cwV 1 hts gX5_later_X5_nextBar rfl rfl rfl (by decide +kernel) ⟨Nat.le_of_ble_eq_true rfl, Nat.le_of_ble_eq_true rfl⟩) (hgPreV (C := RX5) (T := TX5) (N := 29) (ci := 5) (q0 := 0) hP hD hK hN [0, 1] rfl rfl rfl rfl) rfl rfl hl.1 rfl (lv_room (Nat.le_of_ble_eq_true rfl)) dX5_later_50 ⟨Nat.zero_le _, Nat.zero_le _⟩) hP hD hS hA (wr := [(o_noise, .inl (cI, 8, .inl o_noise_v)), (o_kind, .inl (cI, 6, .inl o_kind_v)), (o_looks, .inl (cI, 6, .inl o_looks_v)), (o_repeat, .inl (cI, 8, .inl o_repeat_v))]) (wf := [(o_h, .inr (5, [.int o_players, .int o_bars, .ref o_price, .ref o_breath, .ref o_kind, .ref o_looks, .ref o_noise, .ref o_repeat, .ref o_now, .ref o_readPlayer, .ref o_readBar, .int o_readPlayers, .int o_readBars, .ref o_text, .int o_length, .int o_at, .int o_faultAt, .int o_acts, .int o_next, .ref o_row, .int o_heard, .ref o_heardOf, .ref o_heardBars, .ref o_heardPlays, .int o_hushWho, .int o_hushSum, .long o_seed, .ref o_isKept, .ref o_kept])), (o_now, .inl (cI, 32, .inl r5.2)), (o_noise, .inl (cI, 8, .inl o_noise_v)), (o_kind, .inl (cI, 6, .inl o_kind_v)), (o_looks, .inl (cI, 6, .inl o_looks_v)), (o_repeat, .inl (cI, 8, .inl o_repeat_v))]) [0, 1] [2, 3, 4, 5] [4, 5, 0, 1, 2, 3] rfl rfl rfl (by decide) rfl rfl (fun H locs hP hD hS => ?_)
        subst hu
        exact hg_ri hx hb hr hlk rfl hP hD hS dX5_later_53
      · have hu := hu.trans (if_pos c_36)
        refine lv_aload_n hx hb dX5_later_39 rfl (lv_at hl 0 rfl) ?_
        refine lv_iconst (v := 1) hx hb dX5_later_40 (by decide) ?_
        refine lv_iconst (v := 0) hx hb dX5_later_41 (by decide) ?_
        obtain ⟨r8, er8, hu⟩ := lxb_o hu
        refine hg_ci (va_runV (As := [.int 1, .int 0]) (rest := []) ⟨hx, hb, hml, hown, hts⟩ (c_X5_whoIs l dC dI cI cZ cM _ o_h 1 0 o_players o_bars o_price o_breath o_kind o_looks o_noise o_repeat o_now o_readPlayer o_readBar o_readPlayers o_readBars o_text o_length o_at o_faultAt o_acts o_next o_row o_heard o_heardOf o_heardBars o_heardPlays o_hushWho o_hushSum o_seed o_isKept o_kept r5.2 np enp (by omega) nb enb (by omega) 1 (show (1 : Int32) = nI 1 from rfl) (by omega) r8 er8) (cwV 2 hts gX5_later_X5_whoIs rfl rfl rfl (by decide +kernel) ⟨Nat.le_of_ble_eq_true rfl, Nat.le_of_ble_eq_true rfl⟩) (hgPreV (C := RX5) (T := TX5) (N := 29) (ci := 5) (q0 := 0) hP hD hK hN [0, 1] rfl rfl rfl rfl) rfl rfl hl.1 rfl (lv_room (Nat.le_of_ble_eq_true rfl)) dX5_later_42 ⟨Nat.zero_le _, Nat.zero_le _⟩) hP hD hS hA (wr := [(o_noise, .inl (cI, 8, .inl o_noise_v)), (o_kind, .inl (cI, 6, .inl o_kind_v)), (o_looks, .inl (cI, 6, .inl o_looks_v)), (o_repeat, .inl (cI, 8, .inl o_repeat_v))]) (wf := [(o_h, .inr (5, [.int o_players, .int o_bars, .ref o_price, .ref o_breath, .ref o_kind, .ref o_looks, .ref o_noise, .ref o_repeat, .ref o_now, .ref o_readPlayer, .ref o_readBar, .int o_readPlayers, .int o_readBars, .ref o_text, .int o_length, .int o_at, .int o_faultAt, .int o_acts, .int o_next, .ref o_row, .int o_heard, .ref o_heardOf, .ref o_heardBars, .ref o_heardPlays, .int o_hushWho, .int o_hushSum, .long o_seed, .ref o_isKept, .ref o_kept])), (o_now, .inl (cI, 32, .inl r5.2)), (o_noise, .inl (cI, 8, .inl o_noise_v)), (o_kind, .inl (cI, 6, .inl o_kind_v)), (o_looks, .inl (cI, 6, .inl o_looks_v)), (o_repeat, .inl (cI, 8, .inl o_repeat_v))]) [0, 1] [2, 3, 4, 5] [4, 5, 0, 1, 2, 3] rfl rfl rfl (by decide) rfl rfl (fun H locs hP hD hS => ?_)
        refine lv_goto (tgt := 53) hx hb dX5_later_45 (by decide) ?_
        subst hu
        exact hg_ri hx hb hr hlk rfl hP hD hS dX5_later_53
    · have hu := hu.trans (if_pos c_19)
      refine lv_bipush (v := (-2)) hx hb dX5_later_22 (by decide) ?_
      subst hu
      exact hg_ri hx hb hr hlk rfl hP hD hS dX5_later_24

set_option maxHeartbeats 4000000 in
set_option maxRecDepth 100000 in
theorem c_X5_stops (l : Launch) (dC : Nat → ClassId) (dI : Nat → Nat → Nat) (cI cZ cM : ClassId) (sz : Nat) (o_h : Nat) (o_players : Int32) (o_bars : Int32) (o_price : Nat) (o_breath : Nat) (o_kind : Nat) (o_looks : Nat) (o_noise : Nat) (o_repeat : Nat) (o_now : Nat) (o_readPlayer : Nat) (o_readBar : Nat) (o_readPlayers : Int32) (o_readBars : Int32) (o_text : Nat) (o_length : Int32) (o_at : Int32) (o_faultAt : Int32) (o_acts : Int32) (o_next : Int32) (o_row : Nat) (o_heard : Int32) (o_heardOf : Nat) (o_heardBars : Nat) (o_heardPlays : Nat) (o_hushWho : Int32) (o_hushSum : Int32) (o_seed : Int64) (o_isKept : Nat) (o_kept : Nat) (o_now_v : Nat → Int32) (o_noise_v : Nat → Int32) (o_kind_v : Nat → Int32) (o_looks_v : Nat → Int32) (o_repeat_v : Nat → Int32) (np : Nat) (enp : o_players = nI np) (hnp : np ≤ 6) (nb : Nat) (enb : o_bars = nI nb) (hnb : nb ≤ 8) (hB : mB o_now_v) (u : Int32 × (Nat → Int32)) (hu : u = f_X5_stops o_players o_bars o_now_v o_noise_v o_kind_v o_looks_v o_repeat_v) : Met l yX5_stops wsX5_stops { frames := 5, cells := 0, slots := 0, locals := 117 } (hgPc [.ref o_h] (dC, dI) cI cZ cM [(o_h, .inr (5, [.int o_players, .int o_bars, .ref o_price, .ref o_breath, .ref o_kind, .ref o_looks, .ref o_noise, .ref o_repeat, .ref o_now, .ref o_readPlayer, .ref o_readBar, .int o_readPlayers, .int o_readBars, .ref o_text, .int o_length, .int o_at, .int o_faultAt, .int o_acts, .int o_next, .ref o_row, .int o_heard, .ref o_heardOf, .ref o_heardBars, .ref o_heardPlays, .int o_hushWho, .int o_hushSum, .long o_seed, .ref o_isKept, .ref o_kept])), (o_now, .inl (cI, 32, .inl o_now_v)), (o_noise, .inl (cI, 8, .inl o_noise_v)), (o_kind, .inl (cI, 6, .inl o_kind_v)), (o_looks, .inl (cI, 6, .inl o_looks_v)), (o_repeat, .inl (cI, 8, .inl o_repeat_v))] sz) (hgQi (dC, dI) u.1 [(o_h, .inr (5, [.int o_players, .int o_bars, .ref o_price, .ref o_breath, .ref o_kind, .ref o_looks, .ref o_noise, .ref o_repeat, .ref o_now, .ref o_readPlayer, .ref o_readBar, .int o_readPlayers, .int o_readBars, .ref o_text, .int o_length, .int o_at, .int o_faultAt, .int o_acts, .int o_next, .ref o_row, .int o_heard, .ref o_heardOf, .ref o_heardBars, .ref o_heardPlays, .int o_hushWho, .int o_hushSum, .long o_seed, .ref o_isKept, .ref o_kept])), (o_now, .inl (cI, 32, .inl u.2)), (o_noise, .inl (cI, 8, .inl o_noise_v)), (o_kind, .inl (cI, 6, .inl o_kind_v)), (o_looks, .inl (cI, 6, .inl o_looks_v)), (o_repeat, .inl (cI, 8, .inl o_repeat_v))] (va_A [(o_h, .inr (5, [.int o_players, .int o_bars, .ref o_price, .ref o_breath, .ref o_kind, .ref o_looks, .ref o_noise, .ref o_repeat, .ref o_now, .ref o_readPlayer, .ref o_readBar, .int o_readPlayers, .int o_readBars, .ref o_text, .int o_length, .int o_at, .int o_faultAt, .int o_acts, .int o_next, .ref o_row, .int o_heard, .ref o_heardOf, .ref o_heardBars, .ref o_heardPlays, .int o_hushWho, .int o_hushSum, .long o_seed, .ref o_isKept, .ref o_kept])), (o_now, .inl (cI, 32, .inl o_now_v)), (o_noise, .inl (cI, 8, .inl o_noise_v)), (o_kind, .inl (cI, 6, .inl o_kind_v)), (o_looks, .inl (cI, 6, .inl o_looks_v)), (o_repeat, .inl (cI, 8, .inl o_repeat_v))] sz)) 0 0 (va_A [(o_h, .inr (5, [.int o_players, .int o_bars, .ref o_price, .ref o_breath, .ref o_kind, .ref o_looks, .ref o_noise, .ref o_repeat, .ref o_now, .ref o_readPlayer, .ref o_readBar, .int o_readPlayers, .int o_readBars, .ref o_text, .int o_length, .int o_at, .int o_faultAt, .int o_acts, .int o_next, .ref o_row, .int o_heard, .ref o_heardOf, .ref o_heardBars, .ref o_heardPlays, .int o_hushWho, .int o_hushSum, .long o_seed, .ref o_isKept, .ref o_kept])), (o_now, .inl (cI, 32, .inl o_now_v)), (o_noise, .inl (cI, 8, .inl o_noise_v)), (o_kind, .inl (cI, 6, .inl o_kind_v)), (o_looks, .inl (cI, 6, .inl o_looks_v)), (o_repeat, .inl (cI, 8, .inl o_repeat_v))] sz) := by
  refine hg_ofW (cc := cX5_stops) (maxL := 2) (ret := (some .int)) (own := RX5) (fun A => hgQi (dC, dI) u.1 [(o_h, .inr (5, [.int o_players, .int o_bars, .ref o_price, .ref o_breath, .ref o_kind, .ref o_looks, .ref o_noise, .ref o_repeat, .ref o_now, .ref o_readPlayer, .ref o_readBar, .int o_readPlayers, .int o_readBars, .ref o_text, .int o_length, .int o_at, .int o_faultAt, .int o_acts, .int o_next, .ref o_row, .int o_heard, .ref o_heardOf, .ref o_heardBars, .ref o_heardPlays, .int o_hushWho, .int o_hushSum, .long o_seed, .ref o_isKept, .ref o_kept])), (o_now, .inl (cI, 32, .inl u.2)), (o_noise, .inl (cI, 8, .inl o_noise_v)), (o_kind, .inl (cI, 6, .inl o_kind_v)), (o_looks, .inl (cI, 6, .inl o_looks_v)), (o_repeat, .inl (cI, 8, .inl o_repeat_v))] A) rfl (by decide) rfl (Nat.le_of_ble_eq_true rfl) ?_
  intro p e s m below meth c ls A hsz hx hb hr hml hown hts hlk hnm hK hN hA hP hD hS hl
  subst hsz
  have hl : lv_has ls 2 [(0, .ref o_h)] := hl
  unfold f_X5_stops at hu
  refine lv_aload_n hx hb dX5_stops_0 rfl (lv_at hl 0 rfl) ?_
  obtain ⟨r1, er1, hu⟩ := lxb_o hu
  refine hg_cvE (va_runV (As := []) (rest := []) ⟨hx, hb, hml, hown, hts⟩ (c_X5_layTrial l dC dI cI cZ cM _ o_h o_players o_bars o_price o_breath o_kind o_looks o_noise o_repeat o_now o_readPlayer o_readBar o_readPlayers o_readBars o_text o_length o_at o_faultAt o_acts o_next o_row o_heard o_heardOf o_heardBars o_heardPlays o_hushWho o_hushSum o_seed o_isKept o_kept o_now_v np enp (by omega) nb enb (by omega) hB r1 er1) (cwV 0 hts gX5_stops_X5_layTrial rfl rfl rfl (by decide +kernel) ⟨Nat.le_of_ble_eq_true rfl, Nat.le_of_ble_eq_true rfl⟩) (hgPreV (C := RX5) (T := TX5) (N := 29) (ci := 5) (q0 := 0) hP hD hK hN [0, 1] rfl rfl rfl rfl) rfl rfl hl.1 rfl (lv_room (Nat.le_of_ble_eq_true rfl)) dX5_stops_1 ⟨Nat.zero_le _, Nat.zero_le _⟩) hP hD hS hA (wr := [(o_noise, .inl (cI, 8, .inl o_noise_v)), (o_kind, .inl (cI, 6, .inl o_kind_v)), (o_looks, .inl (cI, 6, .inl o_looks_v)), (o_repeat, .inl (cI, 8, .inl o_repeat_v))]) (wf := [(o_h, .inr (5, [.int o_players, .int o_bars, .ref o_price, .ref o_breath, .ref o_kind, .ref o_looks, .ref o_noise, .ref o_repeat, .ref o_now, .ref o_readPlayer, .ref o_readBar, .int o_readPlayers, .int o_readBars, .ref o_text, .int o_length, .int o_at, .int o_faultAt, .int o_acts, .int o_next, .ref o_row, .int o_heard, .ref o_heardOf, .ref o_heardBars, .ref o_heardPlays, .int o_hushWho, .int o_hushSum, .long o_seed, .ref o_isKept, .ref o_kept])), (o_now, .inl (cI, 32, .inl r1)), (o_noise, .inl (cI, 8, .inl o_noise_v)), (o_kind, .inl (cI, 6, .inl o_kind_v)), (o_looks, .inl (cI, 6, .inl o_looks_v)), (o_repeat, .inl (cI, 8, .inl o_repeat_v))]) [0, 1] [2, 3, 4, 5] [4, 5, 0, 1, 2, 3] rfl rfl rfl (by decide) rfl rfl (fun hB2 H locs hP hD hS => ?_)
  refine lv_iconst (v := 0) hx hb dX5_stops_4 (by decide) ?_
  refine lv_istore_n (lv' := [(1, .int 0), (0, .ref o_h)]) hx hb dX5_stops_5 rfl hl (by decide) rfl (fun ls hl => ?_)
  refine hg_loopSJ (T := (Nat → Int32)) (N := (itn 0 31)) (fun v6 => (mB v6)) (fun v6 => [(o_h, .inr (5, [.int o_players, .int o_bars, .ref o_price, .ref o_breath, .ref o_kind, .ref o_looks, .ref o_noise, .ref o_repeat, .ref o_now, .ref o_readPlayer, .ref o_readBar, .int o_readPlayers, .int o_readBars, .ref o_text, .int o_length, .int o_at, .int o_faultAt, .int o_acts, .int o_next, .ref o_row, .int o_heard, .ref o_heardOf, .ref o_heardBars, .ref o_heardPlays, .int o_hushWho, .int o_hushSum, .long o_seed, .ref o_isKept, .ref o_kept])), (o_now, .inl (cI, 32, .inl v6)), (o_noise, .inl (cI, 8, .inl o_noise_v)), (o_kind, .inl (cI, 6, .inl o_kind_v)), (o_looks, .inl (cI, 6, .inl o_looks_v)), (o_repeat, .inl (cI, 8, .inl o_repeat_v))]) (fun k6 v6 => [(0, .ref o_h), (1, .int (nI k6))]) (fun n6 k6 v6 => l_X5_stops_6 o_players o_bars o_noise_v o_kind_v o_looks_v o_repeat_v n6 k6 v6) r1 hB2 hu ?_ ?_ hP hD hS (lv_sub hl [1, 0] rfl)
  · intro v6 hJ6 hu H locs ls hP hD hS hl
    rw [l_X5_stops_6] at hu
    have hP : va_P (dC, dI) vwCl [(o_h, .inr (5, [.int o_players, .int o_bars, .ref o_price, .ref o_breath, .ref o_kind, .ref o_looks, .ref o_noise, .ref o_repeat, .ref o_now, .ref o_readPlayer, .ref o_readBar, .int o_readPlayers, .int o_readBars, .ref o_text, .int o_length, .int o_at, .int o_faultAt, .int o_acts, .int o_next, .ref o_row, .int o_heard, .ref o_heardOf, .ref o_heardBars, .ref o_heardPlays, .int o_hushWho, .int o_hushSum, .long o_seed, .ref o_isKept, .ref o_kept])), (o_now, .inl (cI, 32, .inl v6)), (o_noise, .inl (cI, 8, .inl o_noise_v)), (o_kind, .inl (cI, 6, .inl o_kind_v)), (o_looks, .inl (cI, 6, .inl o_looks_v)), (o_repeat, .inl (cI, 8, .inl o_repeat_v))] H := hP
    have hD : va_D A [(o_h, .inr (5, [.int o_players, .int o_bars, .ref o_price, .ref o_breath, .ref o_kind, .ref o_looks, .ref o_noise, .ref o_repeat, .ref o_now, .ref o_readPlayer, .ref o_readBar, .int o_readPlayers, .int o_readBars, .ref o_text, .int o_length, .int o_at, .int o_faultAt, .int o_acts, .int o_next, .ref o_row, .int o_heard, .ref o_heardOf, .ref o_heardBars, .ref o_heardPlays, .int o_hushWho, .int o_hushSum, .long o_seed, .ref o_isKept, .ref o_kept])), (o_now, .inl (cI, 32, .inl v6)), (o_noise, .inl (cI, 8, .inl o_noise_v)), (o_kind, .inl (cI, 6, .inl o_kind_v)), (o_looks, .inl (cI, 6, .inl o_looks_v)), (o_repeat, .inl (cI, 8, .inl o_repeat_v))] := hD
    have hl : lv_has ls 2 [(0, .ref o_h), (1, .int (nI (itn 0 31)))] := hl
    refine lv_iload_n hx hb dX5_stops_6 rfl (lv_at hl 1 rfl) ?_
    refine lv_bipush (v := 31) hx hb dX5_stops_7 (by decide) ?_
    refine lv_icmp_ge (tgt := 34) hx hb dX5_stops_9 (by decide) (fun c_9 => ?_) (fun c_9 => absurd hg_lo0 c_9)
    refine lv_bipush (v := (-9)) hx hb dX5_stops_34 (by decide) ?_
    subst hu
    exact hg_ri hx hb hr hlk rfl hP hD hS dX5_stops_36
  · intro n6 k6 hk0 v6 hJ6 hu ih H locs ls hP hD hS hl
    have hk : k6 < (itn 0 31) := by omega
    rw [l_X5_stops_6] at hu
    have hkb : k6 < 31 := Nat.lt_of_lt_of_le hk (by decide)
    have hP : va_P (dC, dI) vwCl [(o_h, .inr (5, [.int o_players, .int o_bars, .ref o_price, .ref o_breath, .ref o_kind, .ref o_looks, .ref o_noise, .ref o_repeat, .ref o_now, .ref o_readPlayer, .ref o_readBar, .int o_readPlayers, .int o_readBars, .ref o_text, .int o_length, .int o_at, .int o_faultAt, .int o_acts, .int o_next, .ref o_row, .int o_heard, .ref o_heardOf, .ref o_heardBars, .ref o_heardPlays, .int o_hushWho, .int o_hushSum, .long o_seed, .ref o_isKept, .ref o_kept])), (o_now, .inl (cI, 32, .inl v6)), (o_noise, .inl (cI, 8, .inl o_noise_v)), (o_kind, .inl (cI, 6, .inl o_kind_v)), (o_looks, .inl (cI, 6, .inl o_looks_v)), (o_repeat, .inl (cI, 8, .inl o_repeat_v))] H := hP
    have hD : va_D A [(o_h, .inr (5, [.int o_players, .int o_bars, .ref o_price, .ref o_breath, .ref o_kind, .ref o_looks, .ref o_noise, .ref o_repeat, .ref o_now, .ref o_readPlayer, .ref o_readBar, .int o_readPlayers, .int o_readBars, .ref o_text, .int o_length, .int o_at, .int o_faultAt, .int o_acts, .int o_next, .ref o_row, .int o_heard, .ref o_heardOf, .ref o_heardBars, .ref o_heardPlays, .int o_hushWho, .int o_hushSum, .long o_seed, .ref o_isKept, .ref o_kept])), (o_now, .inl (cI, 32, .inl v6)), (o_noise, .inl (cI, 8, .inl o_noise_v)), (o_kind, .inl (cI, 6, .inl o_kind_v)), (o_looks, .inl (cI, 6, .inl o_looks_v)), (o_repeat, .inl (cI, 8, .inl o_repeat_v))] := hD
    have hl : lv_has ls 2 [(0, .ref o_h), (1, .int (nI k6))] := hl
    refine lv_iload_n hx hb dX5_stops_6 rfl (lv_at hl 1 rfl) ?_
    refine lv_bipush (v := 31) hx hb dX5_stops_7 (by decide) ?_
    refine lv_icmp_ge (tgt := 34) hx hb dX5_stops_9 (by decide) (fun c_9 => absurd c_9 (hg_lo1 hk)) (fun c_9 => ?_)
    refine lv_aload_n hx hb dX5_stops_12 rfl (lv_at hl 0 rfl) ?_
    refine lv_iconst (v := 1) hx hb dX5_stops_13 (by decide) ?_
    obtain ⟨r3, er3, hu⟩ := lxb_o hu
    refine hg_ci (va_runV (As := [.int 1]) (rest := []) ⟨hx, hb, hml, hown, hts⟩ (c_X5_isSilent l dC dI cI cZ cM _ o_h 1 o_players o_bars o_price o_breath o_kind o_looks o_noise o_repeat o_now o_readPlayer o_readBar o_readPlayers o_readBars o_text o_length o_at o_faultAt o_acts o_next o_row o_heard o_heardOf o_heardBars o_heardPlays o_hushWho o_hushSum o_seed o_isKept o_kept v6 np enp (by omega) nb enb (by omega) 1 (show (1 : Int32) = nI 1 from rfl) (by omega) r3 er3) (cwV 1 hts gX5_stops_X5_isSilent rfl rfl rfl (by decide +kernel) ⟨Nat.le_of_ble_eq_true rfl, Nat.le_of_ble_eq_true rfl⟩) (hgPreV (C := RX5) (T := TX5) (N := 29) (ci := 5) (q0 := 0) hP hD hK hN [0, 1] rfl rfl rfl rfl) rfl rfl hl.1 rfl (lv_room (Nat.le_of_ble_eq_true rfl)) dX5_stops_14 ⟨Nat.zero_le _, Nat.zero_le _⟩) hP hD hS hA (wr := [(o_noise, .inl (cI, 8, .inl o_noise_v)), (o_kind, .inl (cI, 6, .inl o_kind_v)), (o_looks, .inl (cI, 6, .inl o_looks_v)), (o_repeat, .inl (cI, 8, .inl o_repeat_v))]) (wf := [(o_h, .inr (5, [.int o_players, .int o_bars, .ref o_price, .ref o_breath, .ref o_kind, .ref o_looks, .ref o_noise, .ref o_repeat, .ref o_now, .ref o_readPlayer, .ref o_readBar, .int o_readPlayers, .int o_readBars, .ref o_text, .int o_length, .int o_at, .int o_faultAt, .int o_acts, .int o_next, .ref o_row, .int o_heard, .ref o_heardOf, .ref o_heardBars, .ref o_heardPlays, .int o_hushWho, .int o_hushSum, .long o_seed, .ref o_isKept, .ref o_kept])), (o_now, .inl (cI, 32, .inl v6)), (o_noise, .inl (cI, 8, .inl o_noise_v)), (o_kind, .inl (cI, 6, .inl o_kind_v)), (o_looks, .inl (cI, 6, .inl o_looks_v)), (o_repeat, .inl (cI, 8, .inl o_repeat_v))]) [0, 1] [2, 3, 4, 5] [4, 5, 0, 1, 2, 3] rfl rfl rfl (by decide) rfl rfl (fun H locs hP hD hS => ?_)
    refine lv_if_eq (tgt := 22) hx hb dX5_stops_17 (by decide) (fun c_17 => ?_) (fun c_17 => ?_)
    · have hu := hu.trans (if_pos c_17)
      refine lv_aload_n hx hb dX5_stops_22 rfl (lv_at hl 0 rfl) ?_
      refine lv_iconst (v := 1) hx hb dX5_stops_23 (by decide) ?_
      obtain ⟨r4, er4, hu⟩ := lxb_o hu
      refine hg_ciE (va_runV (As := [.int 1]) (rest := []) ⟨hx, hb, hml, hown, hts⟩ (c_X5_passOn l dC dI cI cZ cM _ o_h 1 o_players o_bars o_price o_breath o_kind o_looks o_noise o_repeat o_now o_readPlayer o_readBar o_readPlayers o_readBars o_text o_length o_at o_faultAt o_acts o_next o_row o_heard o_heardOf o_heardBars o_heardPlays o_hushWho o_hushSum o_seed o_isKept o_kept v6 o_noise_v o_kind_v o_looks_v o_repeat_v np enp (by omega) nb enb (by omega) 1 (show (1 : Int32) = nI 1 from rfl) (by omega) hJ6 r4 er4) (cwV 1 hts gX5_stops_X5_passOn rfl rfl rfl (by decide +kernel) ⟨Nat.le_of_ble_eq_true rfl, Nat.le_of_ble_eq_true rfl⟩) (hgPreV (C := RX5) (T := TX5) (N := 29) (ci := 5) (q0 := 0) hP hD hK hN [0, 1, 2, 3, 4, 5] rfl rfl rfl rfl) rfl rfl hl.1 rfl (lv_room (Nat.le_of_ble_eq_true rfl)) dX5_stops_24 ⟨Nat.zero_le _, Nat.zero_le _⟩) hP hD hS hA (wr := []) (wf := [(o_h, .inr (5, [.int o_players, .int o_bars, .ref o_price, .ref o_breath, .ref o_kind, .ref o_looks, .ref o_noise, .ref o_repeat, .ref o_now, .ref o_readPlayer, .ref o_readBar, .int o_readPlayers, .int o_readBars, .ref o_text, .int o_length, .int o_at, .int o_faultAt, .int o_acts, .int o_next, .ref o_row, .int o_heard, .ref o_heardOf, .ref o_heardBars, .ref o_heardPlays, .int o_hushWho, .int o_hushSum, .long o_seed, .ref o_isKept, .ref o_kept])), (o_now, .inl (cI, 32, .inl r4.2)), (o_noise, .inl (cI, 8, .inl o_noise_v)), (o_kind, .inl (cI, 6, .inl o_kind_v)), (o_looks, .inl (cI, 6, .inl o_looks_v)), (o_repeat, .inl (cI, 8, .inl o_repeat_v))]) [0, 1, 2, 3, 4, 5] [] [0, 1, 2, 3, 4, 5] rfl rfl rfl (by decide) rfl rfl (fun hB5 H locs hP hD hS => ?_)
      refine lv_pop hx hb dX5_stops_27 rfl ?_
      refine lv_iinc (v := nI (k6 + 1)) (lv' := [(1, .int (nI (k6 + 1))), (0, .ref o_h)]) hx hb dX5_stops_28 hl (k := 1) rfl (nI_1 k6) (by decide) rfl (fun ls hl => ?_)
      refine lv_goto (tgt := 6) hx hb dX5_stops_31 (by decide) ?_
      exact ih _ hB5 hu _ _ _ hP hD hS (lv_sub hl [1, 0] rfl)
    · have hu := hu.trans (if_neg c_17)
      refine lv_iload_n hx hb dX5_stops_20 rfl (lv_at hl 1 rfl) ?_
      subst hu
      exact hg_ri hx hb hr hlk rfl hP hD hS dX5_stops_21
