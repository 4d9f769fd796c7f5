def b_X5_makeSome_2 (x0 : Int32) (x1 : Int32) (k2 : Nat) (v2 : (Nat → Int32)) : (Nat → Int32) :=
  lxb (f_X5_has x0 (nI k2)) (fun r1 =>
  lxb (α := Int32) (if r1 = 0 then (v2 (Int32.toNatClampNeg (16 + nI k2)))
    else x1) (fun z2 =>
   (upd v2 (Int32.toNatClampNeg (16 + nI k2)) z2)))
def l_X5_makeSome_2 (x0 : Int32) (x1 : Int32) (i0 : (Nat → Int32)) : Nat → (Nat → Int32)
  | 0 => i0
  | k + 1 => b_X5_makeSome_2 x0 x1 k (l_X5_makeSome_2 x0 x1 i0 k)
def f_X5_makeSome (x0 : Int32) (x1 : Int32) (o_players : Int32) (o_now_v : Nat → Int32) : (Nat → Int32) :=
  lxb (l_X5_makeSome_2 x0 x1 o_now_v (itn 0 o_players)) (fun r4 =>
  r4)

def f_X5_isHushed (x0 : Int32) (x1 : Int32) (o_players : Int32) (o_bars : Int32) (o_now_v : Nat → Int32) (o_noise_v : Nat → Int32) (o_kind_v : Nat → Int32) (o_looks_v : Nat → Int32) (o_repeat_v : Nat → Int32) : Int32 × (Nat → Int32) :=
  lxb (f_X5_layTrial o_now_v) (fun r1 =>
  lxb (f_X5_makeSome x0 1 o_players r1) (fun r3 =>
   lxb (f_X5_goOn x1 o_players o_bars r3 o_noise_v o_kind_v o_looks_v o_repeat_v) (fun r5 =>
    lxb (f_X5_isSilent 1 o_players o_bars r5.2) (fun r7 =>
     (r7, r5.2)))))

def b_X5_priceOf_4 (x0 : Int32) (o_price_v : Nat → Int32) (k4 : Nat) (v4 : Int32) : Int32 :=
  lxb (f_X5_has x0 (nI k4)) (fun r1 =>
  lxb (α := Int32) (if r1 = 0 then 0
    else (o_price_v (Int32.toNatClampNeg (nI k4)))) (fun z2 =>
   (v4 + z2)))
def l_X5_priceOf_4 (x0 : Int32) (o_price_v : Nat → Int32) (i0 : Int32) : Nat → Int32
  | 0 => i0
  | k + 1 => b_X5_priceOf_4 x0 o_price_v k (l_X5_priceOf_4 x0 o_price_v i0 k)
def f_X5_priceOf (x0 : Int32) (o_players : Int32) (o_price_v : Nat → Int32) : Int32 :=
  lxb (l_X5_priceOf_4 x0 o_price_v 0 (itn 0 o_players)) (fun r3 =>
  r3)

def b_X5_cheapest_12 (x0 : Int32) (o_players : Int32) (o_bars : Int32) (o_price_v : Nat → Int32) (o_noise_v : Nat → Int32) (o_kind_v : Nat → Int32) (o_looks_v : Nat → Int32) (o_repeat_v : Nat → Int32) (r1 : Int32) (k12 : Nat) (v12 : Int32 × (Nat → Int32)) : Int32 × (Nat → Int32) :=
  lxb (f_X5_priceOf v12.1 o_players o_price_v) (fun r2 =>
  lxb (f_X5_priceOf (nI k12) o_players o_price_v) (fun r3 =>
   lxb (α := Int32) (if 0 < (r2 - r3) then 1
     else if (r2 - r3) = 0 then (lxb (f_X5_ones (nI k12)) (fun r5 =>
       lxb (f_X5_ones v12.1) (fun r6 =>
        if r5 < r6 then 1
         else lxb (f_X5_ones (nI k12)) (fun r7 =>
          lxb (f_X5_ones v12.1) (fun r8 =>
           if r7 = r8 then (if v12.1 ≤ nI k12 then 0
             else 1)
            else 0)))))
      else 0) (fun z4 =>
    if (nI k12 &&& (r1 ^^^ (-1))) = 0 then (if z4 = 0 then (v12.1, v12.2)
      else lxb (f_X5_isHushed (nI k12) x0 o_players o_bars v12.2 o_noise_v o_kind_v o_looks_v o_repeat_v) (fun r9 =>
       lxb (α := Int32) (if r9.1 = 0 then v12.1
         else nI k12) (fun z11 =>
        (z11, r9.2))))
     else (v12.1, v12.2))))
def l_X5_cheapest_12 (x0 : Int32) (o_players : Int32) (o_bars : Int32) (o_price_v : Nat → Int32) (o_noise_v : Nat → Int32) (o_kind_v : Nat → Int32) (o_looks_v : Nat → Int32) (o_repeat_v : Nat → Int32) (r1 : Int32) (i0 : Int32 × (Nat → Int32)) : Nat → Int32 × (Nat → Int32)
  | 0 => i0
  | k + 1 => b_X5_cheapest_12 x0 o_players o_bars o_price_v o_noise_v o_kind_v o_looks_v o_repeat_v r1 k (l_X5_cheapest_12 x0 o_players o_bars o_price_v o_noise_v o_kind_v o_looks_v o_repeat_v r1 i0 k)
def f_X5_cheapest (x0 : Int32) (o_players : Int32) (o_bars : Int32) (o_now_v : Nat → Int32) (o_price_v : Nat → Int32) (o_noise_v : Nat → Int32) (o_kind_v : Nat → Int32) (o_looks_v : Nat → Int32) (o_repeat_v : Nat → Int32) : Int32 × (Nat → Int32) :=
  lxb (f_X5_whoIs 0 0 o_players o_now_v) (fun r1 =>
  lxb (l_X5_cheapest_12 x0 o_players o_bars o_price_v o_noise_v o_kind_v o_looks_v o_repeat_v r1 (r1, o_now_v) (itn 0 (1 <<< (o_players &&& 31)))) (fun r12 =>
   (r12.1, r12.2)))

def f_X5_hush (x0 : Int32) (x1 : Int32) (o_players : Int32) (o_bars : Int32) (o_now_v : Nat → Int32) (o_price_v : Nat → Int32) (o_noise_v : Nat → Int32) (o_kind_v : Nat → Int32) (o_looks_v : Nat → Int32) (o_repeat_v : Nat → Int32) : Int32 × (Nat → Int32) :=
  lxb (f_X5_in (Int32.toInt64 x0) 0 9) (fun r1 =>
  if r1 = 0 then ((-2), o_now_v)
   else lxb (f_X5_in (Int32.toInt64 x1) 0 1) (fun r2 =>
    if r2 = 0 then ((-2), o_now_v)
     else lxb (f_X5_cheapest x0 o_players o_bars o_now_v o_price_v o_noise_v o_kind_v o_looks_v o_repeat_v) (fun r3 =>
      if x1 = 0 then (lxb (f_X5_priceOf r3.1 o_players o_price_v) (fun r5 =>
        (r5, r3.2)))
       else (r3.1, r3.2))))

def b_X5_loud_35 (x0 : Int32) (o_players : Int32) (o_bars : Int32) (o_noise_v : Nat → Int32) (o_kind_v : Nat → Int32) (o_looks_v : Nat → Int32) (o_repeat_v : Nat → Int32) (o_breath_v : Nat → Int32) (k35 : Nat) (v35 : Int32 × Int32 × (Nat → Int32)) : Int32 × Int32 × (Nat → Int32) :=
  if nI k35 = 6 then (lxb (f_X5_layTrial v35.2.2) (fun r3 =>
   if 6 ≤ nI k35 then (lxb (f_X5_goOn x0 o_players o_bars r3 o_noise_v o_kind_v o_looks_v o_repeat_v) (fun r5 =>
     lxb (α := Int32) (if r5.1 ≤ v35.2.1 then v35.1
       else nI k35) (fun z7 =>
      lxb (α := Int32) (if r5.1 ≤ v35.2.1 then v35.2.1
        else r5.1) (fun z8 =>
       (z7, z8, r5.2)))))
    else lxb (f_X5_restOn 1 (nI k35) r3 o_breath_v) (fun r9 =>
     lxb (f_X5_goOn x0 o_players o_bars r9 o_noise_v o_kind_v o_looks_v o_repeat_v) (fun r11 =>
      lxb (α := Int32) (if r11.1 ≤ v35.2.1 then v35.1
        else nI k35) (fun z13 =>
       lxb (α := Int32) (if r11.1 ≤ v35.2.1 then v35.2.1
         else r11.1) (fun z14 =>
        (z13, z14, r11.2)))))))
  else lxb (f_X5_canRest 0 (nI k35) o_players v35.2.2 o_breath_v) (fun r15 =>
   if r15 = 0 then (v35.1, v35.2.1, v35.2.2)
    else lxb (f_X5_layTrial v35.2.2) (fun r16 =>
     if 6 ≤ nI k35 then (lxb (f_X5_goOn x0 o_players o_bars r16 o_noise_v o_kind_v o_looks_v o_repeat_v) (fun r18 =>
       lxb (α := Int32) (if r18.1 ≤ v35.2.1 then v35.1
         else nI k35) (fun z20 =>
        lxb (α := Int32) (if r18.1 ≤ v35.2.1 then v35.2.1
          else r18.1) (fun z21 =>
         (z20, z21, r18.2)))))
      else lxb (f_X5_restOn 1 (nI k35) r16 o_breath_v) (fun r22 =>
       lxb (f_X5_goOn x0 o_players o_bars r22 o_noise_v o_kind_v o_looks_v o_repeat_v) (fun r24 =>
        lxb (α := Int32) (if r24.1 ≤ v35.2.1 then v35.1
          else nI k35) (fun z26 =>
         lxb (α := Int32) (if r24.1 ≤ v35.2.1 then v35.2.1
           else r24.1) (fun z27 =>
          (z26, z27, r24.2)))))))
def l_X5_loud_35 (x0 : Int32) (o_players : Int32) (o_bars : Int32) (o_noise_v : Nat → Int32) (o_kind_v : Nat → Int32) (o_looks_v : Nat → Int32) (o_repeat_v : Nat → Int32) (o_breath_v : Nat → Int32) (i0 : Int32 × Int32 × (Nat → Int32)) : Nat → Int32 × Int32 × (Nat → Int32)
  | 0 => i0
  | k + 1 => b_X5_loud_35 x0 o_players o_bars o_noise_v o_kind_v o_looks_v o_repeat_v o_breath_v k (l_X5_loud_35 x0 o_players o_bars o_noise_v o_kind_v o_looks_v o_repeat_v o_breath_v i0 k)
def f_X5_loud (x0 : Int32) (x1 : Int32) (o_players : Int32) (o_bars : Int32) (o_now_v : Nat → Int32) (o_noise_v : Nat → Int32) (o_kind_v : Nat → Int32) (o_looks_v : Nat → Int32) (o_repeat_v : Nat → Int32) (o_breath_v : Nat → Int32) : Int32 × (Nat → Int32) :=
  lxb (f_X5_in (Int32.toInt64 x0) 1 12) (fun r1 =>
  if r1 = 0 then ((-2), o_now_v)
   else lxb (f_X5_in (Int32.toInt64 x1) 0 1) (fun r2 =>
    if r2 = 0 then ((-2), o_now_v)
     else lxb (l_X5_loud_35 x0 o_players o_bars o_noise_v o_kind_v o_looks_v o_repeat_v o_breath_v ((-9), (-9), o_now_v) (itn1 0 6)) (fun r28 =>
      if x1 = 0 then (r28.1, r28.2.2)
       else (r28.2.1, r28.2.2))))
set_option maxHeartbeats 4000000 in
set_option maxRecDepth 100000 in
theorem c_X5_makeSome (l : Launch) (dC : Nat → ClassId) (dI : Nat → Nat → Nat) (cI cZ cM : ClassId) (sz : Nat) (o_h : Nat) (x0 : Int32) (x1 : Int32) (o_players : Int32) (o_bars : Int32) (o_price : Nat) (o_breath : Nat) (o_kind : Nat) (o_looks : Nat) (o_noise : Nat) (o_repeat : Nat) (o_now : Nat) (o_readPlayer : Nat) (o_readBar : Nat) (o_readPlayers : Int32) (o_readBars : Int32) (o_text : Nat) (o_length : Int32) (o_at : Int32) (o_faultAt : Int32) (o_acts : Int32) (o_next : Int32) (o_row : Nat) (o_heard : Int32) (o_heardOf : Nat) (o_heardBars : Nat) (o_heardPlays : Nat) (o_hushWho : Int32) (o_hushSum : Int32) (o_seed : Int64) (o_isKept : Nat) (o_kept : Nat) (o_now_v : Nat → Int32) (np : Nat) (enp : o_players = nI np) (hnp : np ≤ 6) (nb : Nat) (enb : o_bars = nI nb) (hnb : nb ≤ 8) (hB : mB o_now_v) (u : (Nat → Int32)) (hu : u = f_X5_makeSome x0 x1 o_players o_now_v) : Met l yX5_makeSome wsX5_makeSome { frames := 1, cells := 0, slots := 0, locals := 21 } (hgPc [.ref o_h, .int x0, .int x1] (dC, dI) cI cZ cM [(o_h, .inr (5, [.int o_players, .int o_bars, .ref o_price, .ref o_breath, .ref o_kind, .ref o_looks, .ref o_noise, .ref o_repeat, .ref o_now, .ref o_readPlayer, .ref o_readBar, .int o_readPlayers, .int o_readBars, .ref o_text, .int o_length, .int o_at, .int o_faultAt, .int o_acts, .int o_next, .ref o_row, .int o_heard, .ref o_heardOf, .ref o_heardBars, .ref o_heardPlays, .int o_hushWho, .int o_hushSum, .long o_seed, .ref o_isKept, .ref o_kept])), (o_now, .inl (cI, 32, .inl o_now_v))] sz) (hgQvE (dC, dI) [(o_h, .inr (5, [.int o_players, .int o_bars, .ref o_price, .ref o_breath, .ref o_kind, .ref o_looks, .ref o_noise, .ref o_repeat, .ref o_now, .ref o_readPlayer, .ref o_readBar, .int o_readPlayers, .int o_readBars, .ref o_text, .int o_length, .int o_at, .int o_faultAt, .int o_acts, .int o_next, .ref o_row, .int o_heard, .ref o_heardOf, .ref o_heardBars, .ref o_heardPlays, .int o_hushWho, .int o_hushSum, .long o_seed, .ref o_isKept, .ref o_kept])), (o_now, .inl (cI, 32, .inl u))] (mB u) (va_A [(o_h, .inr (5, [.int o_players, .int o_bars, .ref o_price, .ref o_breath, .ref o_kind, .ref o_looks, .ref o_noise, .ref o_repeat, .ref o_now, .ref o_readPlayer, .ref o_readBar, .int o_readPlayers, .int o_readBars, .ref o_text, .int o_length, .int o_at, .int o_faultAt, .int o_acts, .int o_next, .ref o_row, .int o_heard, .ref o_heardOf, .ref o_heardBars, .ref o_heardPlays, .int o_hushWho, .int o_hushSum, .long o_seed, .ref o_isKept, .ref o_kept])), (o_now, .inl (cI, 32, .inl o_now_v))] sz)) 0 0 (va_A [(o_h, .inr (5, [.int o_players, .int o_bars, .ref o_price, .ref o_breath, .ref o_kind, .ref o_looks, .ref o_noise, .ref o_repeat, .ref o_now, .ref o_readPlayer, .ref o_readBar, .int o_readPlayers, .int o_readBars, .ref o_text, .int o_length, .int o_at, .int o_faultAt, .int o_acts, .int o_next, .ref o_row, .int o_heard, .ref o_heardOf, .ref o_heardBars, .ref o_heardPlays, .int o_hushWho, .int o_hushSum, .long o_seed, .ref o_isKept, .ref o_kept])), (o_now, .inl (cI, 32, .inl o_now_v))] sz) := by
  refine hg_ofW (cc := cX5_makeSome) (maxL := 4) (ret := none) (own := RX5) (fun A => hgQvE (dC, dI) [(o_h, .inr (5, [.int o_players, .int o_bars, .ref o_price, .ref o_breath, .ref o_kind, .ref o_looks, .ref o_noise, .ref o_repeat, .ref o_now, .ref o_readPlayer, .ref o_readBar, .int o_readPlayers, .int o_readBars, .ref o_text, .int o_length, .int o_at, .int o_faultAt, .int o_acts, .int o_next, .ref o_row, .int o_heard, .ref o_heardOf, .ref o_heardBars, .ref o_heardPlays, .int o_hushWho, .int o_hushSum, .long o_seed, .ref o_isKept, .ref o_kept])), (o_now, .inl (cI, 32, .inl u))] (mB u) A) rfl (by decide) rfl (Nat.le_of_ble_eq_true rfl) ?_
  intro p e s m below meth c ls A hsz hx hb hr hml hown hts hlk hnm hK hN hA hP hD hS hl
  subst hsz
  have w1 := hts (.fieldLink RX5 93 "HatGoesRoundModel" "players" "I") (List.mem_of_getElem? (i := 1) rfl)
  have hinX5 : ∀ w ∈ u_ws RX5 TX5 29, w ∈ wsX5_makeSome := fun _ h => List.mem_cons_of_mem _ (List.mem_append_right _ h)
  have w2 := hts (.fieldLink RX5 28 "HatGoesRoundModel" "now" "[I") (List.mem_of_getElem? (i := 2) rfl)
  have hl : lv_has ls 4 [(0, .ref o_h), (1, .int x0), (2, .int x1)] := hl
  unfold f_X5_makeSome at hu
  refine lv_iconst (v := 0) hx hb dX5_makeSome_0 (by decide) ?_
  refine lv_istore_n (lv' := [(3, .int 0), (0, .ref o_h), (1, .int x0), (2, .int x1)]) hx hb dX5_makeSome_1 rfl hl (by decide) rfl (fun ls hl => ?_)
  obtain ⟨r4, er4, hu⟩ := lxb_o hu
  refine hg_loopFJ (T := (Nat → Int32)) (N := (itn 0 o_players)) (fun v2 => (mB v2)) (fun v2 => [(o_h, .inr (5, [.int o_players, .int o_bars, .ref o_price, .ref o_breath, .ref o_kind, .ref o_looks, .ref o_noise, .ref o_repeat, .ref o_now, .ref o_readPlayer, .ref o_readBar, .int o_readPlayers, .int o_readBars, .ref o_text, .int o_length, .int o_at, .int o_faultAt, .int o_acts, .int o_next, .ref o_row, .int o_heard, .ref o_heardOf, .ref o_heardBars, .ref o_heardPlays, .int o_hushWho, .int o_hushSum, .long o_seed, .ref o_isKept, .ref o_kept])), (o_now, .inl (cI, 32, .inl v2))]) (fun k2 v2 => [(0, .ref o_h), (1, .int x0), (2, .int x1), (3, .int (nI k2))]) (fun k2 => l_X5_makeSome_2 x0 x1 o_now_v k2) hB ?_ ?_ hP hD hS (lv_sub hl [1, 2, 3, 0] rfl)
  · intro v2 hJ2 hv H locs ls hP hD hS hl
    obtain rfl : r4 = v2 := er4.trans hv.symm
    have hP : va_P (dC, dI) vwCl [(o_h, .inr (5, [.int o_players, .int o_bars, .ref o_price, .ref o_breath, .ref o_kind, .ref o_looks, .ref o_noise, .ref o_repeat, .ref o_now, .ref o_readPlayer, .ref o_readBar, .int o_readPlayers, .int o_readBars, .ref o_text, .int o_length, .int o_at, .int o_faultAt, .int o_acts, .int o_next, .ref o_row, .int o_heard, .ref o_heardOf, .ref o_heardBars, .ref o_heardPlays, .int o_hushWho, .int o_hushSum, .long o_seed, .ref o_isKept, .ref o_kept])), (o_now, .inl (cI, 32, .inl r4))] H := hP
    have hD : va_D A [(o_h, .inr (5, [.int o_players, .int o_bars, .ref o_price, .ref o_breath, .ref o_kind, .ref o_looks, .ref o_noise, .ref o_repeat, .ref o_now, .ref o_readPlayer, .ref o_readBar, .int o_readPlayers, .int o_readBars, .ref o_text, .int o_length, .int o_at, .int o_faultAt, .int o_acts, .int o_next, .ref o_row, .int o_heard, .ref o_heardOf, .ref o_heardBars, .ref o_heardPlays, .int o_hushWho, .int o_hushSum, .long o_seed, .ref o_isKept, .ref o_kept])), (o_now, .inl (cI, 32, .inl r4))] := hD
    have hl : lv_has ls 4 [(0, .ref o_h), (1, .int x0), (2, .int x1), (3, .int (nI (itn 0 o_players)))] := hl
    refine lv_iload_n hx hb dX5_makeSome_2 rfl (lv_at hl 3 rfl) ?_
    refine lv_aload_n hx hb dX5_makeSome_3 rfl (lv_at hl 0 rfl) ?_
    refine va_get (D := (dC, dI)) (ci := 5) (v := .int o_players) (C := RX5) (T := TX5) (N := 29) hx hb hts hinX5 hown hK hP 0 rfl rfl 0 (by decide) w1 (fun _ h9 => h9) rfl dX5_makeSome_4 ?_
    refine lv_icmp_ge (tgt := 46) hx hb dX5_makeSome_7 (by decide) (fun c_7 => ?_) (fun c_7 => absurd hg_lo0 c_7)
    subst hu
    exact hg_rvE hx hb hr hlk hJ2 hP hD hS dX5_makeSome_46
  · intro k2 hk v2 hJ2 hv w hw ih H locs ls hP hD hS hl
    have hw : w = b_X5_makeSome_2 x0 x1 k2 v2 := by rw [hw, hv]; rfl
    unfold b_X5_makeSome_2 at hw
    have hkb : k2 + 0 < np := hg_itn0 enp (by omega) hk
    have hP : va_P (dC, dI) vwCl [(o_h, .inr (5, [.int o_players, .int o_bars, .ref o_price, .ref o_breath, .ref o_kind, .ref o_looks, .ref o_noise, .ref o_repeat, .ref o_now, .ref o_readPlayer, .ref o_readBar, .int o_readPlayers, .int o_readBars, .ref o_text, .int o_length, .int o_at, .int o_faultAt, .int o_acts, .int o_next, .ref o_row, .int o_heard, .ref o_heardOf, .ref o_heardBars, .ref o_heardPlays, .int o_hushWho, .int o_hushSum, .long o_seed, .ref o_isKept, .ref o_kept])), (o_now, .inl (cI, 32, .inl v2))] H := hP
    have hD : va_D A [(o_h, .inr (5, [.int o_players, .int o_bars, .ref o_price, .ref o_breath, .ref o_kind, .ref o_looks, .ref o_noise, .ref o_repeat, .ref o_now, .ref o_readPlayer, .ref o_readBar, .int o_readPlayers, .int o_readBars, .ref o_text, .int o_length, .int o_at, .int o_faultAt, .int o_acts, .int o_next, .ref o_row, .int o_heard, .ref o_heardOf, .ref o_heardBars, .ref o_heardPlays, .int o_hushWho, .int o_hushSum, .long o_seed, .ref o_isKept, .ref o_kept])), (o_now, .inl (cI, 32, .inl v2))] := hD
    have hl : lv_has ls 4 [(0, .ref o_h), (1, .int x0), (2, .int x1), (3, .int (nI k2))] := hl
    refine lv_iload_n hx hb dX5_makeSome_2 rfl (lv_at hl 3 rfl) ?_
    refine lv_aload_n hx hb dX5_makeSome_3 rfl (lv_at hl 0 rfl) ?_
    refine va_get (D := (dC, dI)) (ci := 5) (v := .int o_players) (C := RX5) (T := TX5) (N := 29) hx hb hts hinX5 hown hK hP 0 rfl rfl 0 (by decide) w1 (fun _ h9 => h9) rfl dX5_makeSome_4 ?_
    refine lv_icmp_ge (tgt := 46) hx hb dX5_makeSome_7 (by decide) (fun c_7 => absurd c_7 (hg_lo1 hk)) (fun c_7 => ?_)
    refine lv_aload_n hx hb dX5_makeSome_10 rfl (lv_at hl 0 rfl) ?_
    refine va_get (D := (dC, dI)) (ci := 5) (v := .ref o_now) (C := RX5) (T := TX5) (N := 29) hx hb hts hinX5 hown hK hP 0 rfl rfl 8 (by decide) w2 (fun _ h9 => h9) rfl dX5_makeSome_11 ?_
    refine lv_bipush (v := 16) hx hb dX5_makeSome_14 (by decide) ?_
    refine lv_iload_n hx hb dX5_makeSome_16 rfl (lv_at hl 3 rfl) ?_
    refine lv_iadd hx hb dX5_makeSome_17 ?_
    refine lv_iload_n hx hb dX5_makeSome_18 rfl (lv_at hl 1 rfl) ?_
    refine lv_iload_n hx hb dX5_makeSome_19 rfl (lv_at hl 3 rfl) ?_
    obtain ⟨r1, er1, hw⟩ := lxb_o hw
    refine hg_ci (va_runS (As := [.int x0, .int (nI k2)]) (rest := [.int (16 + nI k2), .ref o_now]) ⟨hx, hb, hml, hown, hts⟩ (c_X5_has l dC dI cI cZ cM _ x0 (nI k2) r1 er1) (va_cwS 2 hts gX5_makeSome_X5_has rfl rfl rfl (by decide +kernel) ⟨Nat.le_of_ble_eq_true rfl, Nat.le_of_ble_eq_true rfl⟩) (hgPreS hP hD hK hN [] rfl rfl) rfl rfl hl.1 rfl (lv_room (Nat.le_of_ble_eq_true rfl)) dX5_makeSome_20 ⟨Nat.zero_le _, Nat.zero_le _⟩) hP hD hS hA (wr := [(o_h, .inr (5, [.int o_players, .int o_bars, .ref o_price, .ref o_breath, .ref o_kind, .ref o_looks, .ref o_noise, .ref o_repeat, .ref o_now, .ref o_readPlayer, .ref o_readBar, .int o_readPlayers, .int o_readBars, .ref o_text, .int o_length, .int o_at, .int o_faultAt, .int o_acts, .int o_next, .ref o_row, .int o_heard, .ref o_heardOf, .ref o_heardBars, .ref o_heardPlays, .int o_hushWho, .int o_hushSum, .long o_seed, .ref o_isKept, .ref o_kept])), (o_now, .inl (cI, 32, .inl v2))]) (wf := [(o_h, .inr (5, [.int o_players, .int o_bars, .ref o_price, .ref o_breath, .ref o_kind, .ref o_looks, .ref o_noise, .ref o_repeat, .ref o_now, .ref o_readPlayer, .ref o_readBar, .int o_readPlayers, .int o_readBars, .ref o_text, .int o_length, .int o_at, .int o_faultAt, .int o_acts, .int o_next, .ref o_row, .int o_heard, .ref o_heardOf, .ref o_heardBars, .ref o_heardPlays, .int o_hushWho, .int o_hushSum, .long o_seed, .ref o_isKept, .ref o_kept])), (o_now, .inl (cI, 32, .inl v2))]) [] [0, 1] [0, 1] rfl rfl rfl (by decide) rfl rfl (fun H locs hP hD hS => ?_)
    obtain ⟨z2, ez2, hw⟩ := lxb_o hw
    refine hg_cut (D := (dC, dI)) (A0 := A) (H0 := s.heap) (ws := [(o_h, .inr (5, [.int o_players, .int o_bars, .ref o_price, .ref o_breath, .ref o_kind, .ref o_looks, .ref o_noise, .ref o_repeat, .ref o_now, .ref o_readPlayer, .ref o_readBar, .int o_readPlayers, .int o_readBars, .ref o_text, .int o_length, .int o_at, .int o_faultAt, .int o_acts, .int o_next, .ref o_row, .int o_heard, .ref o_heardOf, .ref o_heardBars, .ref o_heardPlays, .int o_hushWho, .int o_hushSum, .long o_seed, .ref o_isKept, .ref o_kept])), (o_now, .inl (cI, 32, .inl v2))]) (g := F0 m 39 ls [.int z2, .int (16 + nI k2), .ref o_now]) ?_ (fun hJ => ?_)
    · intro H locs hP hD hS
      refine va_iast hx hb hK hP hD hS 1 0 rfl rfl (n := 32) (f := v2) (hg_in (n := (16 + k2)) (N := 32) (nx_add (show (16 : Int32) = nI 16 from rfl) rfl) (by omega) (by decide)) dX5_makeSome_39 (fun H locs hP hD hS => ?_)
      have hP : va_P (dC, dI) vwCl [(o_h, .inr (5, [.int o_players, .int o_bars, .ref o_price, .ref o_breath, .ref o_kind, .ref o_looks, .ref o_noise, .ref o_repeat, .ref o_now, .ref o_readPlayer, .ref o_readBar, .int o_readPlayers, .int o_readBars, .ref o_text, .int o_length, .int o_at, .int o_faultAt, .int o_acts, .int o_next, .ref o_row, .int o_heard, .ref o_heardOf, .ref o_heardBars, .ref o_heardPlays, .int o_hushWho, .int o_hushSum, .long o_seed, .ref o_isKept, .ref o_kept])), (o_now, .inl (cI, 32, .inl (upd v2 (Int32.toNatClampNeg (16 + nI k2)) z2)))] H := hP
      have hD : va_D A [(o_h, .inr (5, [.int o_players, .int o_bars, .ref o_price, .ref o_breath, .ref o_kind, .ref o_looks, .ref o_noise, .ref o_repeat, .ref o_now, .ref o_readPlayer, .ref o_readBar, .int o_readPlayers, .int o_readBars, .ref o_text, .int o_length, .int o_at, .int o_faultAt, .int o_acts, .int o_next, .ref o_row, .int o_heard, .ref o_heardOf, .ref o_heardBars, .ref o_heardPlays, .int o_hushWho, .int o_hushSum, .long o_seed, .ref o_isKept, .ref o_kept])), (o_now, .inl (cI, 32, .inl (upd v2 (Int32.toNatClampNeg (16 + nI k2)) z2)))] := hD
      have hB3 : mB (upd v2 (Int32.toNatClampNeg (16 + nI k2)) z2) := mB_upd (n := (16 + k2)) hJ2 (nx_add (show (16 : Int32) = nI 16 from rfl) rfl) (by omega) (fun q => absurd q (by omega))
      refine lv_iinc (v := nI (k2 + 1)) (lv' := [(3, .int (nI (k2 + 1))), (0, .ref o_h), (1, .int x0), (2, .int x1)]) hx hb dX5_makeSome_40 hl (k := 3) rfl (nI_1 k2) (by decide) rfl (fun ls hl => ?_)
      refine lv_goto (tgt := 2) hx hb dX5_makeSome_43 (by decide) ?_
      subst hw
      exact ih hB3 _ _ _ hP hD hS (lv_sub hl [1, 2, 3, 0] rfl)
    · refine lv_if_eq (tgt := 30) hx hb dX5_makeSome_23 (by decide) (fun c_23 => ?_) (fun c_23 => ?_)
      · have ez2 := ez2.trans (if_pos c_23)
        refine lv_aload_n hx hb dX5_makeSome_30 rfl (lv_at hl 0 rfl) ?_
        refine va_get (D := (dC, dI)) (ci := 5) (v := .ref o_now) (C := RX5) (T := TX5) (N := 29) hx hb hts hinX5 hown hK hP 0 rfl rfl 8 (by decide) w2 (fun _ h9 => h9) rfl dX5_makeSome_31 ?_
        refine lv_bipush (v := 16) hx hb dX5_makeSome_34 (by decide) ?_
        refine lv_iload_n hx hb dX5_makeSome_36 rfl (lv_at hl 3 rfl) ?_
        refine lv_iadd hx hb dX5_makeSome_37 ?_
        refine va_iald hx hb hK hP 1 0 rfl rfl (n := 32) (f := v2) (hg_in (n := (16 + k2)) (N := 32) (nx_add (show (16 : Int32) = nI 16 from rfl) rfl) (by omega) (by decide)) dX5_makeSome_38 ?_
        subst ez2
        exact hJ _ _ hP hD hS
      · have ez2 := ez2.trans (if_neg c_23)
        refine lv_iload_n hx hb dX5_makeSome_26 rfl (lv_at hl 2 rfl) ?_
        refine lv_goto (tgt := 39) hx hb dX5_makeSome_27 (by decide) ?_
        subst ez2
        exact hJ _ _ hP hD hS

set_option maxHeartbeats 4000000 in
set_option maxRecDepth 100000 in
theorem c_X5_isHushed (l : Launch) (dC : Nat → ClassId) (dI : Nat → Nat → Nat) (cI cZ cM : ClassId) (sz : Nat) (o_h : Nat) (x0 : Int32) (x1 : Int32) (o_players : Int32) (o_bars : Int32) (o_price : Nat) (o_breath : Nat) (o_kind : Nat) (o_looks : Nat) (o_noise : Nat) (o_repeat : Nat) (o_now : Nat) (o_readPlayer : Nat) (o_readBar : Nat) (o_readPlayers : Int32) (o_readBars : Int32) (o_text : Nat) (o_length : Int32) (o_at : Int32) (o_faultAt : Int32) (o_acts : Int32) (o_next : Int32) (o_row : Nat) (o_heard : Int32) (o_heardOf : Nat) (o_heardBars : Nat) (o_heardPlays : Nat) (o_hushWho : Int32) (o_hushSum : Int32) (o_seed : Int64) (o_isKept : Nat) (o_kept : Nat) (o_now_v : Nat → Int32) (o_noise_v : Nat → Int32) (o_kind_v : Nat → Int32) (o_looks_v : Nat → Int32) (o_repeat_v : Nat → Int32) (np : Nat) (enp : o_players = nI np) (hnp : np ≤ 6) (nb : Nat) (enb : o_bars = nI nb) (hnb : nb ≤ 8) (hB : mB o_now_v) (u : Int32 × (Nat → Int32)) (hu : u = f_X5_isHushed x0 x1 o_players o_bars o_now_v o_noise_v o_kind_v o_looks_v o_repeat_v) : Met l yX5_isHushed wsX5_isHushed { frames := 6, cells := 0, slots := 0, locals := 140 } (hgPc [.ref o_h, .int x0, .int x1] (dC, dI) cI cZ cM [(o_h, .inr (5, [.int o_players, .int o_bars, .ref o_price, .ref o_breath, .ref o_kind, .ref o_looks, .ref o_noise, .ref o_repeat, .ref o_now, .ref o_readPlayer, .ref o_readBar, .int o_readPlayers, .int o_readBars, .ref o_text, .int o_length, .int o_at, .int o_faultAt, .int o_acts, .int o_next, .ref o_row, .int o_heard, .ref o_heardOf, .ref o_heardBars, .ref o_heardPlays, .int o_hushWho, .int o_hushSum, .long o_seed, .ref o_isKept, .ref o_kept])), (o_now, .inl (cI, 32, .inl o_now_v)), (o_noise, .inl (cI, 8, .inl o_noise_v)), (o_kind, .inl (cI, 6, .inl o_kind_v)), (o_looks, .inl (cI, 6, .inl o_looks_v)), (o_repeat, .inl (cI, 8, .inl o_repeat_v))] sz) (hgQiE (dC, dI) u.1 [(o_h, .inr (5, [.int o_players, .int o_bars, .ref o_price, .ref o_breath, .ref o_kind, .ref o_looks, .ref o_noise, .ref o_repeat, .ref o_now, .ref o_readPlayer, .ref o_readBar, .int o_readPlayers, .int o_readBars, .ref o_text, .int o_length, .int o_at, .int o_faultAt, .int o_acts, .int o_next, .ref o_row, .int o_heard, .ref o_heardOf, .ref o_heardBars, .ref o_heardPlays, .int o_hushWho, .int o_hushSum, .long o_seed, .ref o_isKept, .ref o_kept])), (o_now, .inl (cI, 32, .inl u.2)), (o_noise, .inl (cI, 8, .inl o_noise_v)), (o_kind, .inl (cI, 6, .inl o_kind_v)), (o_looks, .inl (cI, 6, .inl o_looks_v)), (o_repeat, .inl (cI, 8, .inl o_repeat_v))] (mB u.2) (va_A [(o_h, .inr (5, [.int o_players, .int o_bars, .ref o_price, .ref o_breath, .ref o_kind, .ref o_looks, .ref o_noise, .ref o_repeat, .ref o_now, .ref o_readPlayer, .ref o_readBar, .int o_readPlayers, .int o_readBars, .ref o_text, .int o_length, .int o_at, .int o_faultAt, .int o_acts, .int o_next, .ref o_row, .int o_heard, .ref o_heardOf, .ref o_heardBars, .ref o_heardPlays, .int o_hushWho, .int o_hushSum, .long o_seed, .ref o_isKept, .ref o_kept])), (o_now, .inl (cI, 32, .inl o_now_v)), (o_noise, .inl (cI, 8, .inl o_noise_v)), (o_kind, .inl (cI, 6, .inl o_kind_v)), (o_looks, .inl (cI, 6, .inl o_looks_v)), (o_repeat, .inl (cI, 8, .inl o_repeat_v))] sz)) 0 0 (va_A [(o_h, .inr (5, [.int o_players, .int o_bars, .ref o_price, .ref o_breath, .ref o_kind, .ref o_looks, .ref o_noise, .ref o_repeat, .ref o_now, .ref o_readPlayer, .ref o_readBar, .int o_readPlayers, .int o_readBars, .ref o_text, .int o_length, .int o_at, .int o_faultAt, .int o_acts, .int o_next, .ref o_row, .int o_heard, .ref o_heardOf, .ref o_heardBars, .ref o_heardPlays, .int o_hushWho, .int o_hushSum, .long o_seed, .ref o_isKept, .ref o_kept])), (o_now, .inl (cI, 32, .inl o_now_v)), (o_noise, .inl (cI, 8, .inl o_noise_v)), (o_kind, .inl (cI, 6, .inl o_kind_v)), (o_looks, .inl (cI, 6, .inl o_looks_v)), (o_repeat, .inl (cI, 8, .inl o_repeat_v))] sz) := by
  refine hg_ofW (cc := cX5_isHushed) (maxL := 3) (ret := (some .boolean)) (own := RX5) (fun A => hgQiE (dC, dI) u.1 [(o_h, .inr (5, [.int o_players, .int o_bars, .ref o_price, .ref o_breath, .ref o_kind, .ref o_looks, .ref o_noise, .ref o_repeat, .ref o_now, .ref o_readPlayer, .ref o_readBar, .int o_readPlayers, .int o_readBars, .ref o_text, .int o_length, .int o_at, .int o_faultAt, .int o_acts, .int o_next, .ref o_row, .int o_heard, .ref o_heardOf, .ref o_heardBars, .ref o_heardPlays, .int o_hushWho, .int o_hushSum, .long o_seed, .ref o_isKept, .ref o_kept])), (o_now, .inl (cI, 32, .inl u.2)), (o_noise, .inl (cI, 8, .inl o_noise_v)), (o_kind, .inl (cI, 6, .inl o_kind_v)), (o_looks, .inl (cI, 6, .inl o_looks_v)), (o_repeat, .inl (cI, 8, .inl o_repeat_v))] (mB u.2) A) rfl (by decide) rfl (Nat.le_of_ble_eq_true rfl) ?_
  intro p e s m below meth c ls A hsz hx hb hr hml hown hts hlk hnm hK hN hA hP hD hS hl
  subst hsz
  have hl : lv_has ls 3 [(0, .ref o_h), (1, .int x0), (2, .int x1)] := hl
  unfold f_X5_isHushed at hu
  refine lv_aload_n hx hb dX5_isHushed_0 rfl (lv_at hl 0 rfl) ?_
  obtain ⟨r1, er1, hu⟩ := lxb_o hu
  refine hg_cvE (va_runV (As := []) (rest := []) ⟨hx, hb, hml, hown, hts⟩ (c_X5_layTrial l dC dI cI cZ cM _ o_h o_players o_bars o_price o_breath o_kind o_looks o_noise o_repeat o_now o_readPlayer o_readBar o_readPlayers o_readBars o_text o_length o_at o_faultAt o_acts o_next o_row o_heard o_heardOf o_heardBars o_heardPlays o_hushWho o_hushSum o_seed o_isKept o_kept o_now_v np enp (by omega) nb enb (by omega) hB r1 er1) (cwV 0 hts gX5_isHushed_X5_layTrial rfl rfl rfl (by decide +kernel) ⟨Nat.le_of_ble_eq_true rfl, Nat.le_of_ble_eq_true rfl⟩) (hgPreV (C := RX5) (T := TX5) (N := 29) (ci := 5) (q0 := 0) hP hD hK hN [0, 1] rfl rfl rfl rfl) rfl rfl hl.1 rfl (lv_room (Nat.le_of_ble_eq_true rfl)) dX5_isHushed_1 ⟨Nat.zero_le _, Nat.zero_le _⟩) hP hD hS hA (wr := [(o_noise, .inl (cI, 8, .inl o_noise_v)), (o_kind, .inl (cI, 6, .inl o_kind_v)), (o_looks, .inl (cI, 6, .inl o_looks_v)), (o_repeat, .inl (cI, 8, .inl o_repeat_v))]) (wf := [(o_h, .inr (5, [.int o_players, .int o_bars, .ref o_price, .ref o_breath, .ref o_kind, .ref o_looks, .ref o_noise, .ref o_repeat, .ref o_now, .ref o_readPlayer, .ref o_readBar, .int o_readPlayers, .int o_readBars, .ref o_text, .int o_length, .int o_at, .int o_faultAt, .int o_acts, .int o_next, .ref o_row, .int o_heard, .ref o_heardOf, .ref o_heardBars, .ref o_heardPlays, .int o_hushWho, .int o_hushSum, .long o_seed, .ref o_isKept, .ref o_kept])), (o_now, .inl (cI, 32, .inl r1)), (o_noise, .inl (cI, 8, .inl o_noise_v)), (o_kind, .inl (cI, 6, .inl o_kind_v)), (o_looks, .inl (cI, 6, .inl o_looks_v)), (o_repeat, .inl (cI, 8, .inl o_repeat_v))]) [0, 1] [2, 3, 4, 5] [4, 5, 0, 1, 2, 3] rfl rfl rfl (by decide) rfl rfl (fun hB2 H locs hP hD hS => ?_)
  refine lv_aload_n hx hb dX5_isHushed_4 rfl (lv_at hl 0 rfl) ?_
  refine lv_iload_n hx hb dX5_isHushed_5 rfl (lv_at hl 1 rfl) ?_
  refine lv_iconst (v := 1) hx hb dX5_isHushed_6 (by decide) ?_
  obtain ⟨r3, er3, hu⟩ := lxb_o hu
  refine hg_cvE (va_runV (As := [.int x0, .int 1]) (rest := []) ⟨hx, hb, hml, hown, hts⟩ (c_X5_makeSome l dC dI cI cZ cM _ o_h x0 1 o_players o_bars o_price o_breath o_kind o_looks o_noise o_repeat o_now o_readPlayer o_readBar o_readPlayers o_readBars o_text o_length o_at o_faultAt o_acts o_next o_row o_heard o_heardOf o_heardBars o_heardPlays o_hushWho o_hushSum o_seed o_isKept o_kept r1 np enp (by omega) nb enb (by omega) hB2 r3 er3) (cwV 2 hts gX5_isHushed_X5_makeSome rfl rfl rfl (by decide +kernel) ⟨Nat.le_of_ble_eq_true rfl, Nat.le_of_ble_eq_true rfl⟩) (hgPreV (C := RX5) (T := TX5) (N := 29) (ci := 5) (q0 := 0) hP hD hK hN [0, 1] rfl rfl rfl rfl) rfl rfl hl.1 rfl (lv_room (Nat.le_of_ble_eq_true rfl)) dX5_isHushed_7 ⟨Nat.zero_le _, Nat.zero_le _⟩) hP hD hS hA (wr := [(o_noise, .inl (cI, 8, .inl o_noise_v)), (o_kind, .inl (cI, 6, .inl o_kind_v)), (o_looks, .inl (cI, 6, .inl o_looks_v)), (o_repeat, .inl (cI, 8, .inl o_repeat_v))]) (wf := [(o_h, .inr (5, [.int o_players, .int o_bars, .ref o_price, .ref o_breath, .ref o_kind, .ref o_looks, .ref o_noise, .ref o_repeat, .ref o_now, .ref o_readPlayer, .ref o_readBar, .int o_readPlayers, .int o_readBars, .ref o_text, .int o_length, .int o_at, .int o_faultAt, .int o_acts, .int o_next, .ref o_row, .int o_heard, .ref o_heardOf, .ref o_heardBars, .ref o_heardPlays, .int o_hushWho, .int o_hushSum, .long o_seed, .ref o_isKept, .ref o_kept])), (o_now, .inl (cI, 32, .inl r3)), (o_noise, .inl (cI, 8, .inl o_noise_v)), (o_kind, .inl (cI, 6, .inl o_kind_v)), (o_looks, .inl (cI, 6, .inl o_looks_v)), (o_repeat, .inl (cI, 8, .inl o_repeat_v))]) [0, 1] [2, 3, 4, 5] [4, 5, 0, 1, 2, 3] rfl rfl rfl (by decide) rfl rfl (fun hB4 H locs hP hD hS => ?_)
  refine lv_aload_n hx hb dX5_isHushed_10 rfl (lv_at hl 0 rfl) ?_
  refine lv_iload_n hx hb dX5_isHushed_11 rfl (lv_at hl 2 rfl) ?_
  obtain ⟨r5, er5, hu⟩ := lxb_o hu
  refine hg_ciE (va_runV (As := [.int x1]) (rest := []) ⟨hx, hb, hml, hown, hts⟩ (c_X5_goOn l dC dI cI cZ cM _ o_h x1 o_players o_bars o_price o_breath o_kind o_looks o_noise o_repeat o_now o_readPlayer o_readBar o_readPlayers o_readBars o_text o_length o_at o_faultAt o_acts o_next o_row o_heard o_heardOf o_heardBars o_heardPlays o_hushWho o_hushSum o_seed o_isKept o_kept r3 o_noise_v o_kind_v o_looks_v o_repeat_v np enp (by omega) nb enb (by omega) hB4 r5 er5) (cwV 1 hts gX5_isHushed_X5_goOn rfl rfl rfl (by decide +kernel) ⟨Nat.le_of_ble_eq_true rfl, Nat.le_of_ble_eq_true rfl⟩) (hgPreV (C := RX5) (T := TX5) (N := 29) (ci := 5) (q0 := 0) hP hD hK hN [0, 1, 2, 3, 4, 5] rfl rfl rfl rfl) rfl rfl hl.1 rfl (lv_room (Nat.le_of_ble_eq_true rfl)) dX5_isHushed_12 ⟨Nat.zero_le _, Nat.zero_le _⟩) hP hD hS hA (wr := []) (wf := [(o_h, .inr (5, [.int o_players, .int o_bars, .ref o_price, .ref o_breath, .ref o_kind, .ref o_looks, .ref o_noise, .ref o_repeat, .ref o_now, .ref o_readPlayer, .ref o_readBar, .int o_readPlayers, .int o_readBars, .ref o_text, .int o_length, .int o_at, .int o_faultAt, .int o_acts, .int o_next, .ref o_row, .int o_heard, .ref o_heardOf, .ref o_heardBars, .ref o_heardPlays, .int o_hushWho, .int o_hushSum, .long o_seed, .ref o_isKept, .ref o_kept])), (o_now, .inl (cI, 32, .inl r5.2)), (o_noise, .inl (cI, 8, .inl o_noise_v)), (o_kind, .inl (cI, 6, .inl o_kind_v)), (o_looks, .inl (cI, 6, .inl o_looks_v)), (o_repeat, .inl (cI, 8, .inl o_repeat_v))]) [0, 1, 2, 3, 4, 5] [] [0, 1, 2, 3, 4, 5] rfl rfl rfl (by decide) rfl rfl (fun hB6 H locs hP hD hS => ?_)
  refine lv_pop hx hb dX5_isHushed_15 rfl ?_
  refine lv_aload_n hx hb dX5_isHushed_16 rfl (lv_at hl 0 rfl) ?_
  refine lv_iconst (v := 1) hx hb dX5_isHushed_17 (by decide) ?_
  obtain ⟨r7, er7, hu⟩ := lxb_o hu
  refine hg_ci (va_runV (As := [.int 1]) (rest := []) ⟨hx, hb, hml, hown, hts⟩ (c_X5_isSilent l dC dI cI cZ cM _ o_h 1 o_players o_bars o_price o_breath o_kind o_looks o_noise o_repeat o_now o_readPlayer o_readBar o_readPlayers o_readBars o_text o_length o_at o_faultAt o_acts o_next o_row o_heard o_heardOf o_heardBars o_heardPlays o_hushWho o_hushSum o_seed o_isKept o_kept r5.2 np enp (by omega) nb enb (by omega) 1 (show (1 : Int32) = nI 1 from rfl) (by omega) r7 er7) (cwV 1 hts gX5_isHushed_X5_isSilent rfl rfl rfl (by decide +kernel) ⟨Nat.le_of_ble_eq_true rfl, Nat.le_of_ble_eq_true rfl⟩) (hgPreV (C := RX5) (T := TX5) (N := 29) (ci := 5) (q0 := 0) hP hD hK hN [0, 1] rfl rfl rfl rfl) rfl rfl hl.1 rfl (lv_room (Nat.le_of_ble_eq_true rfl)) dX5_isHushed_18 ⟨Nat.zero_le _, Nat.zero_le _⟩) hP hD hS hA (wr := [(o_noise, .inl (cI, 8, .inl o_noise_v)), (o_kind, .inl (cI, 6, .inl o_kind_v)), (o_looks, .inl (cI, 6, .inl o_looks_v)), (o_repeat, .inl (cI, 8, .inl o_repeat_v))]) (wf := [(o_h, .inr (5, [.int o_players, .int o_bars, .ref o_price, .ref o_breath, .ref o_kind, .ref o_looks, .ref o_noise, .ref o_repeat, .ref o_now, .ref o_readPlayer, .ref o_readBar, .int o_readPlayers, .int o_readBars, .ref o_text, .int o_length, .int o_at, .int o_faultAt, .int o_acts, .int o_next, .ref o_row, .int o_heard, .ref o_heardOf, .ref o_heardBars, .ref o_heardPlays, .int o_hushWho, .int o_hushSum, .long o_seed, .ref o_isKept, .ref o_kept])), (o_now, .inl (cI, 32, .inl r5.2)), (o_noise, .inl (cI, 8, .inl o_noise_v)), (o_kind, .inl (cI, 6, .inl o_kind_v)), (o_looks, .inl (cI, 6, .inl o_looks_v)), (o_repeat, .inl (cI, 8, .inl o_repeat_v))]) [0, 1] [2, 3, 4, 5] [4, 5, 0, 1, 2, 3] rfl rfl rfl (by decide) rfl rfl (fun H locs hP hD hS => ?_)
  subst hu
  exact hg_rzE hx hb hr hlk (z_X5_isSilent er7) rfl hB6 hP hD hS dX5_isHushed_21

set_option maxHeartbeats 4000000 in
set_option maxRecDepth 100000 in
theorem c_X5_priceOf (l : Launch) (dC : Nat → ClassId) (dI : Nat → Nat → Nat) (cI cZ cM : ClassId) (sz : Nat) (o_h : Nat) (x0 : Int32) (o_players : Int32) (o_bars : Int32) (o_price : Nat) (o_breath : Nat) (o_kind : Nat) (o_looks : Nat) (o_noise : Nat) (o_repeat : Nat) (o_now : Nat) (o_readPlayer : Nat) (o_readBar : Nat) (o_readPlayers : Int32) (o_readBars : Int32) (o_text : Nat) (o_length : Int32) (o_at : Int32) (o_faultAt : Int32) (o_acts : Int32) (o_next : Int32) (o_row : Nat) (o_heard : Int32) (o_heardOf : Nat) (o_heardBars : Nat) (o_heardPlays : Nat) (o_hushWho : Int32) (o_hushSum : Int32) (o_seed : Int64) (o_isKept : Nat) (o_kept : Nat) (o_price_v : Nat → Int32) (np : Nat) (enp : o_players = nI np) (hnp : np ≤ 6) (nb : Nat) (enb : o_bars = nI nb) (hnb : nb ≤ 8) (u : Int32) (hu : u = f_X5_priceOf x0 o_players o_price_v) : Met l yX5_priceOf wsX5_priceOf { frames := 1, cells := 0, slots := 0, locals := 21 } (hgPc [.ref o_h, .int x0] (dC, dI) cI cZ cM [(o_h, .inr (5, [.int o_players, .int o_bars, .ref o_price, .ref o_breath, .ref o_kind, .ref o_looks, .ref o_noise, .ref o_repeat, .ref o_now, .ref o_readPlayer, .ref o_readBar, .int o_readPlayers, .int o_readBars, .ref o_text, .int o_length, .int o_at, .int o_faultAt, .int o_acts, .int o_next, .ref o_row, .int o_heard, .ref o_heardOf, .ref o_heardBars, .ref o_heardPlays, .int o_hushWho, .int o_hushSum, .long o_seed, .ref o_isKept, .ref o_kept])), (o_price, .inl (cI, 6, .inl o_price_v))] sz) (hgQi (dC, dI) u [(o_h, .inr (5, [.int o_players, .int o_bars, .ref o_price, .ref o_breath, .ref o_kind, .ref o_looks, .ref o_noise, .ref o_repeat, .ref o_now, .ref o_readPlayer, .ref o_readBar, .int o_readPlayers, .int o_readBars, .ref o_text, .int o_length, .int o_at, .int o_faultAt, .int o_acts, .int o_next, .ref o_row, .int o_heard, .ref o_heardOf, .ref o_heardBars, .ref o_heardPlays, .int o_hushWho, .int o_hushSum, .long o_seed, .ref o_isKept, .ref o_kept])), (o_price, .inl (cI, 6, .inl o_price_v))] (va_A [(o_h, .inr (5, [.int o_players, .int o_bars, .ref o_price, .ref o_breath, .ref o_kind, .ref o_looks, .ref o_noise, .ref o_repeat, .ref o_now, .ref o_readPlayer, .ref o_readBar, .int o_readPlayers, .int o_readBars, .ref o_text, .int o_length, .int o_at, .int o_faultAt, .int o_acts, .int o_next, .ref o_row, .int o_heard, .ref o_heardOf, .ref o_heardBars, .ref o_heardPlays, .int o_hushWho, .int o_hushSum, .long o_seed, .ref o_isKept, .ref o_kept])), (o_price, .inl (cI, 6, .inl o_price_v))] sz)) 0 0 (va_A [(o_h, .inr (5, [.int o_players, .int o_bars, .ref o_price, .ref o_breath, .ref o_kind, .ref o_looks, .ref o_noise, .ref o_repeat, .ref o_now, .ref o_readPlayer, .ref o_readBar, .int o_readPlayers, .int o_readBars, .ref o_text, .int o_length, .int o_at, .int o_faultAt, .int o_acts, .int o_next, .ref o_row, .int o_heard, .ref o_heardOf, .ref o_heardBars, .ref o_heardPlays, .int o_hushWho, .int o_hushSum, .long o_seed, .ref o_isKept, .ref o_kept])), (o_price, .inl (cI, 6, .inl o_price_v))] sz) := by
  refine hg_ofW (cc := cX5_priceOf) (maxL := 4) (ret := (some .int)) (own := RX5) (fun A => hgQi (dC, dI) u [(o_h, .inr (5, [.int o_players, .int o_bars, .ref o_price, .ref o_breath, .ref o_kind, .ref o_looks, .ref o_noise, .ref o_repeat, .ref o_now, .ref o_readPlayer, .ref o_readBar, .int o_readPlayers, .int o_readBars, .ref o_text, .int o_length, .int o_at, .int o_faultAt, .int o_acts, .int o_next, .ref o_row, .int o_heard, .ref o_heardOf, .ref o_heardBars, .ref o_heardPlays, .int o_hushWho, .int o_hushSum, .long o_seed, .ref o_isKept, .ref o_kept])), (o_price, .inl (cI, 6, .inl o_price_v))] A) rfl (by decide) rfl (Nat.le_of_ble_eq_true rfl) ?_
  intro p e s m below meth c ls A hsz hx hb hr hml hown hts hlk hnm hK hN hA hP hD hS hl
  subst hsz
  have w1 := hts (.fieldLink RX5 93 "HatGoesRoundModel" "players" "I") (List.mem_of_getElem? (i := 1) rfl)
  have hinX5 : ∀ w ∈ u_ws RX5 TX5 29, w ∈ wsX5_priceOf := fun _ h => List.mem_cons_of_mem _ (List.mem_append_right _ h)
  have w2 := hts (.fieldLink RX5 7 "HatGoesRoundModel" "price" "[I") (List.mem_of_getElem? (i := 2) rfl)
  have hl : lv_has ls 4 [(0, .ref o_h), (1, .int x0)] := hl
  unfold f_X5_priceOf at hu
  refine lv_iconst (v := 0) hx hb dX5_priceOf_0 (by decide) ?_
  refine lv_istore_n (lv' := [(2, .int 0), (0, .ref o_h), (1, .int x0)]) hx hb dX5_priceOf_1 rfl hl (by decide) rfl (fun ls hl => ?_)
  refine lv_iconst (v := 0) hx hb dX5_priceOf_2 (by decide) ?_
  refine lv_istore_n (lv' := [(3, .int 0), (2, .int 0), (0, .ref o_h), (1, .int x0)]) hx hb dX5_priceOf_3 rfl hl (by decide) rfl (fun ls hl => ?_)
  obtain ⟨r3, er3, hu⟩ := lxb_o hu
  refine hg_loopF (T := Int32) (N := (itn 0 o_players)) (fun v4 => [(o_h, .inr (5, [.int o_players, .int o_bars, .ref o_price, .ref o_breath, .ref o_kind, .ref o_looks, .ref o_noise, .ref o_repeat, .ref o_now, .ref o_readPlayer, .ref o_readBar, .int o_readPlayers, .int o_readBars, .ref o_text, .int o_length, .int o_at, .int o_faultAt, .int o_acts, .int o_next, .ref o_row, .int o_heard, .ref o_heardOf, .ref o_heardBars, .ref o_heardPlays, .int o_hushWho, .int o_hushSum, .long o_seed, .ref o_isKept, .ref o_kept])), (o_price, .inl (cI, 6, .inl o_price_v))]) (fun k4 v4 => [(0, .ref o_h), (1, .int x0), (2, .int v4), (3, .int (nI k4))]) (fun k4 => l_X5_priceOf_4 x0 o_price_v 0 k4) ?_ ?_ hP hD hS (lv_sub hl [2, 3, 1, 0] rfl)
  · intro v4 hv H locs ls hP hD hS hl
    obtain rfl : r3 = v4 := er3.trans hv.symm
    have hP : va_P (dC, dI) vwCl [(o_h, .inr (5, [.int o_players, .int o_bars, .ref o_price, .ref o_breath, .ref o_kind, .ref o_looks, .ref o_noise, .ref o_repeat, .ref o_now, .ref o_readPlayer, .ref o_readBar, .int o_readPlayers, .int o_readBars, .ref o_text, .int o_length, .int o_at, .int o_faultAt, .int o_acts, .int o_next, .ref o_row, .int o_heard, .ref o_heardOf, .ref o_heardBars, .ref o_heardPlays, .int o_hushWho, .int o_hushSum, .long o_seed, .ref o_isKept, .ref o_kept])), (o_price, .inl (cI, 6, .inl o_price_v))] H := hP
    have hD : va_D A [(o_h, .inr (5, [.int o_players, .int o_bars, .ref o_price, .ref o_breath, .ref o_kind, .ref o_looks, .ref o_noise, .ref o_repeat, .ref o_now, .ref o_readPlayer, .ref o_readBar, .int o_readPlayers, .int o_readBars, .ref o_text, .int o_length, .int o_at, .int o_faultAt, .int o_acts, .int o_next, .ref o_row, .int o_heard, .ref o_heardOf, .ref o_heardBars, .ref o_heardPlays, .int o_hushWho, .int o_hushSum, .long o_seed, .ref o_isKept, .ref o_kept])), (o_price, .inl (cI, 6, .inl o_price_v))] := hD
    have hl : lv_has ls 4 [(0, .ref o_h), (1, .int x0), (2, .int r3), (3, .int (nI (itn 0 o_players)))] := hl
    refine lv_iload_n hx hb dX5_priceOf_4 rfl (lv_at hl 3 rfl) ?_
    refine lv_aload_n hx hb dX5_priceOf_5 rfl (lv_at hl 0 rfl) ?_
    refine va_get (D := (dC, dI)) (ci := 5) (v := .int o_players) (C := RX5) (T := TX5) (N := 29) hx hb hts hinX5 hown hK hP 0 rfl rfl 0 (by decide) w1 (fun _ h9 => h9) rfl dX5_priceOf_6 ?_
    refine lv_icmp_ge (tgt := 39) hx hb dX5_priceOf_9 (by decide) (fun c_9 => ?_) (fun c_9 => absurd hg_lo0 c_9)
    refine lv_iload_n hx hb dX5_priceOf_39 rfl (lv_at hl 2 rfl) ?_
    subst hu
    exact hg_ri hx hb hr hlk rfl hP hD hS dX5_priceOf_40
  · intro k4 hk v4 hv w hw ih H locs ls hP hD hS hl
    have hw : w = b_X5_priceOf_4 x0 o_price_v k4 v4 := by rw [hw, hv]; rfl
    unfold b_X5_priceOf_4 at hw
    have hkb : k4 + 0 < np := hg_itn0 enp (by omega) hk
    have hP : va_P (dC, dI) vwCl [(o_h, .inr (5, [.int o_players, .int o_bars, .ref o_price, .ref o_breath, .ref o_kind, .ref o_looks, .ref o_noise, .ref o_repeat, .ref o_now, .ref o_readPlayer, .ref o_readBar, .int o_readPlayers, .int o_readBars, .ref o_text, .int o_length, .int o_at, .int o_faultAt, .int o_acts, .int o_next, .ref o_row, .int o_heard, .ref o_heardOf, .ref o_heardBars, .ref o_heardPlays, .int o_hushWho, .int o_hushSum, .long o_seed, .ref o_isKept, .ref o_kept])), (o_price, .inl (cI, 6, .inl o_price_v))] H := hP
    have hD : va_D A [(o_h, .inr (5, [.int o_players, .int o_bars, .ref o_price, .ref o_breath, .ref o_kind, .ref o_looks, .ref o_noise, .ref o_repeat, .ref o_now, .ref o_readPlayer, .ref o_readBar, .int o_readPlayers, .int o_readBars, .ref o_text, .int o_length, .int o_at, .int o_faultAt, .int o_acts, .int o_next, .ref o_row, .int o_heard, .ref o_heardOf, .ref o_heardBars, .ref o_heardPlays, .int o_hushWho, .int o_hushSum, .long o_seed, .ref o_isKept, .ref o_kept])), (o_price, .inl (cI, 6, .inl o_price_v))] := hD
    have hl : lv_has ls 4 [(0, .ref o_h), (1, .int x0), (2, .int v4), (3, .int (nI k4))] := hl
    refine lv_iload_n hx hb dX5_priceOf_4 rfl (lv_at hl 3 rfl) ?_
    refine lv_aload_n hx hb dX5_priceOf_5 rfl (lv_at hl 0 rfl) ?_
    refine va_get (D := (dC, dI)) (ci := 5) (v := .int o_players) (C := RX5) (T := TX5) (N := 29) hx hb hts hinX5 hown hK hP 0 rfl rfl 0 (by decide) w1 (fun _ h9 => h9) rfl dX5_priceOf_6 ?_
    refine lv_icmp_ge (tgt := 39) hx hb dX5_priceOf_9 (by decide) (fun c_9 => absurd c_9 (hg_lo1 hk)) (fun c_9 => ?_)
    refine lv_iload_n hx hb dX5_priceOf_12 rfl (lv_at hl 2 rfl) ?_
    refine lv_iload_n hx hb dX5_priceOf_13 rfl (lv_at hl 1 rfl) ?_
    refine lv_iload_n hx hb dX5_priceOf_14 rfl (lv_at hl 3 rfl) ?_
    obtain ⟨r1, er1, hw⟩ := lxb_o hw
    refine hg_ci (va_runS (As := [.int x0, .int (nI k4)]) (rest := [.int v4]) ⟨hx, hb, hml, hown, hts⟩ (c_X5_has l dC dI cI cZ cM _ x0 (nI k4) r1 er1) (va_cwS 2 hts gX5_priceOf_X5_has rfl rfl rfl (by decide +kernel) ⟨Nat.le_of_ble_eq_true rfl, Nat.le_of_ble_eq_true rfl⟩) (hgPreS hP hD hK hN [] rfl rfl) rfl rfl hl.1 rfl (lv_room (Nat.le_of_ble_eq_true rfl)) dX5_priceOf_15 ⟨Nat.zero_le _, Nat.zero_le _⟩) hP hD hS hA (wr := [(o_h, .inr (5, [.int o_players, .int o_bars, .ref o_price, .ref o_breath, .ref o_kind, .ref o_looks, .ref o_noise, .ref o_repeat, .ref o_now, .ref o_readPlayer, .ref o_readBar, .int o_readPlayers, .int o_readBars, .ref o_text, .int o_length, .int o_at, .int o_faultAt, .int o_acts, .int o_next, .ref o_row, .int o_heard, .ref o_heardOf, .ref o_heardBars, .ref o_heardPlays, .int o_hushWho, .int o_hushSum, .long o_seed, .ref o_isKept, .ref o_kept])), (o_price, .inl (cI, 6, .inl o_price_v))]) (wf := [(o_h, .inr (5, [.int o_players, .int o_bars, .ref o_price, .ref o_breath, .ref o_kind, .ref o_looks, .ref o_noise, .ref o_repeat, .ref o_now, .ref o_readPlayer, .ref o_readBar, .int o_readPlayers, .int o_readBars, .ref o_text, .int o_length, .int o_at, .int o_faultAt, .int o_acts, .int o_next, .ref o_row, .int o_heard, .ref o_heardOf, .ref o_heardBars, .ref o_heardPlays, .int o_hushWho, .int o_hushSum, .long o_seed, .ref o_isKept, .ref o_kept])), (o_price, .inl (cI, 6, .inl o_price_v))]) [] [0, 1] [0, 1] rfl rfl rfl (by decide) rfl rfl (fun H locs hP hD hS => ?_)
    obtain ⟨z2, ez2, hw⟩ := lxb_o hw
    refine hg_cut (D := (dC, dI)) (A0 := A) (H0 := s.heap) (ws := [(o_h, .inr (5, [.int o_players, .int o_bars, .ref o_price, .ref o_breath, .ref o_kind, .ref o_looks, .ref o_noise, .ref o_repeat, .ref o_now, .ref o_readPlayer, .ref o_readBar, .int o_readPlayers, .int o_readBars, .ref o_text, .int o_length, .int o_at, .int o_faultAt, .int o_acts, .int o_next, .ref o_row, .int o_heard, .ref o_heardOf, .ref o_heardBars, .ref o_heardPlays, .int o_hushWho, .int o_hushSum, .long o_seed, .ref o_isKept, .ref o_kept])), (o_price, .inl (cI, 6, .inl o_price_v))]) (g := F0 m 31 ls [.int z2, .int v4]) ?_ (fun hJ => ?_)
    · intro H locs hP hD hS
      refine lv_iadd hx hb dX5_priceOf_31 ?_
      refine lv_istore_n (lv' := [(2, .int (v4 + z2)), (0, .ref o_h), (1, .int x0), (3, .int (nI k4))]) hx hb dX5_priceOf_32 rfl hl (by decide) rfl (fun ls hl => ?_)
      refine lv_iinc (v := nI (k4 + 1)) (lv' := [(3, .int (nI (k4 + 1))), (2, .int (v4 + z2)), (0, .ref o_h), (1, .int x0)]) hx hb dX5_priceOf_33 hl (k := 3) rfl (nI_1 k4) (by decide) rfl (fun ls hl => ?_)
      refine lv_goto (tgt := 4) hx hb dX5_priceOf_36 (by decide) ?_
      subst hw
      exact ih _ _ _ hP hD hS (lv_sub hl [2, 3, 1, 0] rfl)
    · refine lv_if_eq (tgt := 30) hx hb dX5_priceOf_18 (by decide) (fun c_18 => ?_) (fun c_18 => ?_)
      · have ez2 := ez2.trans (if_pos c_18)
        refine lv_iconst (v := 0) hx hb dX5_priceOf_30 (by decide) ?_
        subst ez2
        exact hJ _ _ hP hD hS
      · have ez2 := ez2.trans (if_neg c_18)
        refine lv_aload_n hx hb dX5_priceOf_21 rfl (lv_at hl 0 rfl) ?_
        refine va_get (D := (dC, dI)) (ci := 5) (v := .ref o_price) (C := RX5) (T := TX5) (N := 29) hx hb hts hinX5 hown hK hP 0 rfl rfl 2 (by decide) w2 (fun _ h9 => h9) rfl dX5_priceOf_22 ?_
        refine lv_iload_n hx hb dX5_priceOf_25 rfl (lv_at hl 3 rfl) ?_
        refine va_iald hx hb hK hP 1 0 rfl rfl (n := 6) (f := o_price_v) (hg_in (n := k4) (N := 6) rfl (by omega) (by decide)) dX5_priceOf_26 ?_
        refine lv_goto (tgt := 31) hx hb dX5_priceOf_27 (by decide) ?_
        subst ez2
        exact hJ _ _ hP hD hS

set_option maxHeartbeats 4000000 in
set_option maxRecDepth 100000 in
theorem c_X5_cheapest (l : Launch) (dC : Nat → ClassId) (dI : Nat → Nat → Nat) (cI cZ cM : ClassId) (sz : Nat) (o_h : Nat) (x0 : Int32) (o_players : Int32) (o_bars : Int32) (o_price : Nat) (o_breath : Nat) (o_kind : Nat) (o_looks : Nat) (o_noise : Nat) (o_repeat : Nat) (o_now : Nat) (o_readPlayer : Nat) (o_readBar : Nat) (o_readPlayers : Int32) (o_readBars : Int32) (o_text : Nat) (o_length : Int32) (o_at : Int32) (o_faultAt : Int32) (o_acts : Int32) (o_next : Int32) (o_row : Nat) (o_heard : Int32) (o_heardOf : Nat) (o_heardBars : Nat) (o_heardPlays : Nat) (o_hushWho : Int32) (o_hushSum : Int32) (o_seed : Int64) (o_isKept : Nat) (o_kept : Nat) (o_now_v : Nat → Int32) (o_price_v : Nat → Int32) (o_noise_v : Nat → Int32) (o_kind_v : Nat → Int32) (o_looks_v : Nat → Int32) (o_repeat_v : Nat → Int32) (np : Nat) (enp : o_players = nI np) (hnp : np ≤ 6) (nb : Nat) (enb : o_bars = nI nb) (hnb : nb ≤ 8) (hB : mB o_now_v) (u : Int32 × (Nat → Int32)) (hu : u = f_X5_cheapest x0 o_players o_bars o_now_v o_price_v o_noise_v o_kind_v o_looks_v o_repeat_v) : Met l yX5_cheapest wsX5_cheapest { frames := 7, cells := 0, slots := 0, locals := 162 } (hgPc [.ref o_h, .int x0] (dC, dI) cI cZ cM [(o_h, .inr (5, [.int o_players, .int o_bars, .ref o_price, .ref o_breath, .ref o_kind, .ref o_looks, .ref o_noise, .ref o_repeat, .ref o_now, .ref o_readPlayer, .ref o_readBar, .int o_readPlayers, .int o_readBars, .ref o_text, .int o_length, .int o_at, .int o_faultAt, .int o_acts, .int o_next, .ref o_row, .int o_heard, .ref o_heardOf, .ref o_heardBars, .ref o_heardPlays, .int o_hushWho, .int o_hushSum, .long o_seed, .ref o_isKept, .ref o_kept])), (o_now, .inl (cI, 32, .inl o_now_v)), (o_price, .inl (cI, 6, .inl o_price_v)), (o_noise, .inl (cI, 8, .inl o_noise_v)), (o_kind, .inl (cI, 6, .inl o_kind_v)), (o_looks, .inl (cI, 6, .inl o_looks_v)), (o_repeat, .inl (cI, 8, .inl o_repeat_v))] sz) (hgQiE (dC, dI) u.1 [(o_h, .inr (5, [.int o_players, .int o_bars, .ref o_price, .ref o_breath, .ref o_kind, .ref o_looks, .ref o_noise, .ref o_repeat, .ref o_now, .ref o_readPlayer, .ref o_readBar, .int o_readPlayers, .int o_readBars, .ref o_text, .int o_length, .int o_at, .int o_faultAt, .int o_acts, .int o_next, .ref o_row, .int o_heard, .ref o_heardOf, .ref o_heardBars, .ref o_heardPlays, .int o_hushWho, .int o_hushSum, .long o_seed, .ref o_isKept, .ref o_kept])), (o_now, .inl (cI, 32, .inl u.2)), (o_price, .inl (cI, 6, .inl o_price_v)), (o_noise, .inl (cI, 8, .inl o_noise_v)), (o_kind, .inl (cI, 6, .inl o_kind_v)), (o_looks, .inl (cI, 6, .inl o_looks_v)), (o_repeat, .inl (cI, 8, .inl o_repeat_v))] (mB u.2) (va_A [(o_h, .inr (5, [.int o_players, .int o_bars, .ref o_price, .ref o_breath, .ref o_kind, .ref o_looks, .ref o_noise, .ref o_repeat, .ref o_now, .ref o_readPlayer, .ref o_readBar, .int o_readPlayers, .int o_readBars, .ref o_text, .int o_length, .int o_at, .int o_faultAt, .int o_acts, .int o_next, .ref o_row, .int o_heard, .ref o_heardOf, .ref o_heardBars, .ref o_heardPlays, .int o_hushWho, .int o_hushSum, .long o_seed, .ref o_isKept, .ref o_kept])), (o_now, .inl (cI, 32, .inl o_now_v)), (o_price, .inl (cI, 6, .inl o_price_v)), (o_noise, .inl (cI, 8, .inl o_noise_v)), (o_kind, .inl (cI, 6, .inl o_kind_v)), (o_looks, .inl (cI, 6, .inl o_looks_v)), (o_repeat, .inl (cI, 8, .inl o_repeat_v))] sz)) 0 0 (va_A [(o_h, .inr (5, [.int o_players, .int o_bars, .ref o_price, .ref o_breath, .ref o_kind, .ref o_looks, .ref o_noise, .ref o_repeat, .ref o_now, .ref o_readPlayer, .ref o_readBar, .int o_readPlayers, .int o_readBars, .ref o_text, .int o_length, .int o_at, .int o_faultAt, .int o_acts, .int o_next, .ref o_row, .int o_heard, .ref o_heardOf, .ref o_heardBars, .ref o_heardPlays, .int o_hushWho, .int o_hushSum, .long o_seed, .ref o_isKept, .ref o_kept])), (o_now, .inl (cI, 32, .inl o_now_v)), (o_price, .inl (cI, 6, .inl o_price_v)), (o_noise, .inl (cI, 8, .inl o_noise_v)), (o_kind, .inl (cI, 6, .inl o_kind_v)), (o_looks, .inl (cI, 6, .inl o_looks_v)), (o_repeat, .inl (cI, 8, .inl o_repeat_v))] sz) := by
  refine hg_ofW (cc := cX5_cheapest) (maxL := 7) (ret := (some .int)) (own := RX5) (fun A => hgQiE (dC, dI) u.1 [(o_h, .inr (5, [.int o_players, .int o_bars, .ref o_price, .ref o_breath, .ref o_kind, .ref o_looks, .ref o_noise, .ref o_repeat, .ref o_now, .ref o_readPlayer, .ref o_readBar, .int o_readPlayers, .int o_readBars, .ref o_text, .int o_length, .int o_at, .int o_faultAt, .int o_acts, .int o_next, .ref o_row, .int o_heard, .ref o_heardOf, .ref o_heardBars, .ref o_heardPlays, .int o_hushWho, .int o_hushSum, .long o_seed, .ref o_isKept, .ref o_kept])), (o_now, .inl (cI, 32, .inl u.2)), (o_price, .inl (cI, 6, .inl o_price_v)), (o_noise, .inl (cI, 8, .inl o_noise_v)), (o_kind, .inl (cI, 6, .inl o_kind_v)), (o_looks, .inl (cI, 6, .inl o_looks_v)), (o_repeat, .inl (cI, 8, .inl o_repeat_v))] (mB u.2) A) rfl (by decide) rfl (Nat.le_of_ble_eq_true rfl) ?_
  intro p e s m below meth c ls A hsz hx hb hr hml hown hts hlk hnm hK hN hA hP hD hS hl
  subst hsz
  have w1 := hts (.fieldLink RX5 93 "HatGoesRoundModel" "players" "I") (List.mem_of_getElem? (i := 1) rfl)
  have hinX5 : ∀ w ∈ u_ws RX5 TX5 29, w ∈ wsX5_cheapest := fun _ h => List.mem_cons_of_mem _ (List.mem_append_right _ h)
  have hl : lv_has ls 7 [(0, .ref o_h), (1, .int x0)] := hl
  unfold f_X5_cheapest at hu
  refine lv_aload_n hx hb dX5_cheapest_0 rfl (lv_at hl 0 rfl) ?_
  refine lv_iconst (v := 0) hx hb dX5_cheapest_1 (by decide) ?_
  refine lv_iconst (v := 0) hx hb dX5_cheapest_2 (by decide) ?_
  obtain ⟨r1, er1, hu⟩ := lxb_o hu
  refine hg_ci (va_runV (As := [.int 0, .int 0]) (rest := []) ⟨hx, hb, hml, hown, hts⟩ (c_X5_whoIs l dC dI cI cZ cM _ o_h 0 0 o_players o_bars o_price o_breath o_kind o_looks o_noise o_repeat o_now o_readPlayer o_readBar o_readPlayers o_readBars o_text o_length o_at o_faultAt o_acts o_next o_row o_heard o_heardOf o_heardBars o_heardPlays o_hushWho o_hushSum o_seed o_isKept o_kept o_now_v np enp (by omega) nb enb (by omega) 0 (show (0 : Int32) = nI 0 from rfl) (by omega) r1 er1) (cwV 2 hts gX5_cheapest_X5_whoIs rfl rfl rfl (by decide +kernel) ⟨Nat.le_of_ble_eq_true rfl, Nat.le_of_ble_eq_true rfl⟩) (hgPreV (C := RX5) (T := TX5) (N := 29) (ci := 5) (q0 := 0) hP hD hK hN [0, 1] rfl rfl rfl rfl) rfl rfl hl.1 rfl (lv_room (Nat.le_of_ble_eq_true rfl)) dX5_cheapest_3 ⟨Nat.zero_le _, Nat.zero_le _⟩) hP hD hS hA (wr := [(o_price, .inl (cI, 6, .inl o_price_v)), (o_noise, .inl (cI, 8, .inl o_noise_v)), (o_kind, .inl (cI, 6, .inl o_kind_v)), (o_looks, .inl (cI, 6, .inl o_looks_v)), (o_repeat, .inl (cI, 8, .inl o_repeat_v))]) (wf := [(o_h, .inr (5, [.int o_players, .int o_bars, .ref o_price, .ref o_breath, .ref o_kind, .ref o_looks, .ref o_noise, .ref o_repeat, .ref o_now, .ref o_readPlayer, .ref o_readBar, .int o_readPlayers, .int o_readBars, .ref o_text, .int o_length, .int o_at, .int o_faultAt, .int o_acts, .int o_next, .ref o_row, .int o_heard, .ref o_heardOf, .ref o_heardBars, .ref o_heardPlays, .int o_hushWho, .int o_hushSum, .long o_seed, .ref o_isKept, .ref o_kept])), (o_now, .inl (cI, 32, .inl o_now_v)), (o_price, .inl (cI, 6, .inl o_price_v)), (o_noise, .inl (cI, 8, .inl o_noise_v)), (o_kind, .inl (cI, 6, .inl o_kind_v)), (o_looks, .inl (cI, 6, .inl o_looks_v)), (o_repeat, .inl (cI, 8, .inl o_repeat_v))]) [0, 1] [2, 3, 4, 5, 6] [5, 6, 0, 1, 2, 3, 4] rfl rfl rfl (by decide) rfl rfl (fun H locs hP hD hS => ?_)
  refine lv_istore_n (lv' := [(2, .int r1), (0, .ref o_h), (1, .int x0)]) hx hb dX5_cheapest_6 rfl hl (by decide) rfl (fun ls hl => ?_)
  refine lv_iload_n hx hb dX5_cheapest_7 rfl (lv_at hl 0 rfl) ?_
  refine lv_istore_n (lv' := [(3, .int r1), (2, .int r1), (0, .ref o_h), (1, .int x0)]) hx hb dX5_cheapest_8 rfl hl (by decide) rfl (fun ls hl => ?_)
  refine lv_iconst (v := 0) hx hb dX5_cheapest_9 (by decide) ?_
  refine lv_istore (lv' := [(4, .int 0), (3, .int r1), (2, .int r1), (0, .ref o_h), (1, .int x0)]) hx hb dX5_cheapest_10 hl (by decide) rfl (fun ls hl => ?_)
  obtain ⟨r12, er12, hu⟩ := lxb_o hu
  refine hg_loopFJ (T := Int32 × (Nat → Int32)) (N := (itn 0 (1 <<< (o_players &&& 31)))) (fun v12 => (mB v12.2)) (fun v12 => [(o_h, .inr (5, [.int o_players, .int o_bars, .ref o_price, .ref o_breath, .ref o_kind, .ref o_looks, .ref o_noise, .ref o_repeat, .ref o_now, .ref o_readPlayer, .ref o_readBar, .int o_readPlayers, .int o_readBars, .ref o_text, .int o_length, .int o_at, .int o_faultAt, .int o_acts, .int o_next, .ref o_row, .int o_heard, .ref o_heardOf, .ref o_heardBars, .ref o_heardPlays, .int o_hushWho, .int o_hushSum, .long o_seed, .ref o_isKept, .ref o_kept])), (o_now, .inl (cI, 32, .inl v12.2)), (o_price, .inl (cI, 6, .inl o_price_v)), (o_noise, .inl (cI, 8, .inl o_noise_v)), (o_kind, .inl (cI, 6, .inl o_kind_v)), (o_looks, .inl (cI, 6, .inl o_looks_v)), (o_repeat, .inl (cI, 8, .inl o_repeat_v))]) (fun k12 v12 => [(0, .ref o_h), (1, .int x0), (2, .int r1), (3, .int v12.1), (4, .int (nI k12))]) (fun k12 => l_X5_cheapest_12 x0 o_players o_bars o_price_v o_noise_v o_kind_v o_looks_v o_repeat_v r1 (r1, o_now_v) k12) hB ?_ ?_ hP hD hS (lv_sub hl [3, 4, 2, 1, 0] rfl)
  · intro v12 hJ12 hv H locs ls hP hD hS hl
    obtain rfl : r12 = v12 := er12.trans hv.symm
    have hP : va_P (dC, dI) vwCl [(o_h, .inr (5, [.int o_players, .int o_bars, .ref o_price, .ref o_breath, .ref o_kind, .ref o_looks, .ref o_noise, .ref o_repeat, .ref o_now, .ref o_readPlayer, .ref o_readBar, .int o_readPlayers, .int o_readBars, .ref o_text, .int o_length, .int o_at, .int o_faultAt, .int o_acts, .int o_next, .ref o_row, .int o_heard, .ref o_heardOf, .ref o_heardBars, .ref o_heardPlays, .int o_hushWho, .int o_hushSum, .long o_seed, .ref o_isKept, .ref o_kept])), (o_now, .inl (cI, 32, .inl r12.2)), (o_price, .inl (cI, 6, .inl o_price_v)), (o_noise, .inl (cI, 8, .inl o_noise_v)), (o_kind, .inl (cI, 6, .inl o_kind_v)), (o_looks, .inl (cI, 6, .inl o_looks_v)), (o_repeat, .inl (cI, 8, .inl o_repeat_v))] H := hP
    have hD : va_D A [(o_h, .inr (5, [.int o_players, .int o_bars, .ref o_price, .ref o_breath, .ref o_kind, .ref o_looks, .ref o_noise, .ref o_repeat, .ref o_now, .ref o_readPlayer, .ref o_readBar, .int o_readPlayers, .int o_readBars, .ref o_text, .int o_length, .int o_at, .int o_faultAt, .int o_acts, .int o_next, .ref o_row, .int o_heard, .ref o_heardOf, .ref o_heardBars, .ref o_heardPlays, .int o_hushWho, .int o_hushSum, .long o_seed, .ref o_isKept, .ref o_kept])), (o_now, .inl (cI, 32, .inl r12.2)), (o_price, .inl (cI, 6, .inl o_price_v)), (o_noise, .inl (cI, 8, .inl o_noise_v)), (o_kind, .inl (cI, 6, .inl o_kind_v)), (o_looks, .inl (cI, 6, .inl o_looks_v)), (o_repeat, .inl (cI, 8, .inl o_repeat_v))] := hD
    have hl : lv_has ls 7 [(0, .ref o_h), (1, .int x0), (2, .int r1), (3, .int r12.1), (4, .int (nI (itn 0 (1 <<< (o_players &&& 31)))))] := hl
    refine lv_iload hx hb dX5_cheapest_12 (lv_at hl 4 rfl) ?_
    refine lv_iconst (v := 1) hx hb dX5_cheapest_14 (by decide) ?_
    refine lv_aload_n hx hb dX5_cheapest_15 rfl (lv_at hl 0 rfl) ?_
    refine va_get (D := (dC, dI)) (ci := 5) (v := .int o_players) (C := RX5) (T := TX5) (N := 29) hx hb hts hinX5 hown hK hP 0 rfl rfl 0 (by decide) w1 (fun _ h9 => h9) rfl dX5_cheapest_16 ?_
    refine lv_ishl hx hb dX5_cheapest_19 ?_
    refine lv_icmp_ge (tgt := 121) hx hb dX5_cheapest_20 (by decide) (fun c_20 => ?_) (fun c_20 => absurd hg_lo0 c_20)
    refine lv_iload_n hx hb dX5_cheapest_121 rfl (lv_at hl 3 rfl) ?_
    subst hu
    exact hg_riE hx hb hr hlk rfl hJ12 hP hD hS dX5_cheapest_122
  · intro k12 hk v12 hJ12 hv w hw ih H locs ls hP hD hS hl
    have hw : w = b_X5_cheapest_12 x0 o_players o_bars o_price_v o_noise_v o_kind_v o_looks_v o_repeat_v r1 k12 v12 := by rw [hw, hv]; rfl
    unfold b_X5_cheapest_12 at hw
    have hP : va_P (dC, dI) vwCl [(o_h, .inr (5, [.int o_players, .int o_bars, .ref o_price, .ref o_breath, .ref o_kind, .ref o_looks, .ref o_noise, .ref o_repeat, .ref o_now, .ref o_readPlayer, .ref o_readBar, .int o_readPlayers, .int o_readBars, .ref o_text, .int o_length, .int o_at, .int o_faultAt, .int o_acts, .int o_next, .ref o_row, .int o_heard, .ref o_heardOf, .ref o_heardBars, .ref o_heardPlays, .int o_hushWho, .int o_hushSum, .long o_seed, .ref o_isKept, .ref o_kept])), (o_now, .inl (cI, 32, .inl v12.2)), (o_price, .inl (cI, 6, .inl o_price_v)), (o_noise, .inl (cI, 8, .inl o_noise_v)), (o_kind, .inl (cI, 6, .inl o_kind_v)), (o_looks, .inl (cI, 6, .inl o_looks_v)), (o_repeat, .inl (cI, 8, .inl o_repeat_v))] H := hP
    have hD : va_D A [(o_h, .inr (5, [.int o_players, .int o_bars, .ref o_price, .ref o_breath, .ref o_kind, .ref o_looks, .ref o_noise, .ref o_repeat, .ref o_now, .ref o_readPlayer, .ref o_readBar, .int o_readPlayers, .int o_readBars, .ref o_text, .int o_length, .int o_at, .int o_faultAt, .int o_acts, .int o_next, .ref o_row, .int o_heard, .ref o_heardOf, .ref o_heardBars, .ref o_heardPlays, .int o_hushWho, .int o_hushSum, .long o_seed, .ref o_isKept, .ref o_kept])), (o_now, .inl (cI, 32, .inl v12.2)), (o_price, .inl (cI, 6, .inl o_price_v)), (o_noise, .inl (cI, 8, .inl o_noise_v)), (o_kind, .inl (cI, 6, .inl o_kind_v)), (o_looks, .inl (cI, 6, .inl o_looks_v)), (o_repeat, .inl (cI, 8, .inl o_repeat_v))] := hD
    have hl : lv_has ls 7 [(0, .ref o_h), (1, .int x0), (2, .int r1), (3, .int v12.1), (4, .int (nI k12))] := hl
    refine lv_iload hx hb dX5_cheapest_12 (lv_at hl 4 rfl) ?_
    refine lv_iconst (v := 1) hx hb dX5_cheapest_14 (by decide) ?_
    refine lv_aload_n hx hb dX5_cheapest_15 rfl (lv_at hl 0 rfl) ?_
    refine va_get (D := (dC, dI)) (ci := 5) (v := .int o_players) (C := RX5) (T := TX5) (N := 29) hx hb hts hinX5 hown hK hP 0 rfl rfl 0 (by decide) w1 (fun _ h9 => h9) rfl dX5_cheapest_16 ?_
    refine lv_ishl hx hb dX5_cheapest_19 ?_
    refine lv_icmp_ge (tgt := 121) hx hb dX5_cheapest_20 (by decide) (fun c_20 => absurd c_20 (hg_lo1 hk)) (fun c_20 => ?_)
    refine lv_aload_n hx hb dX5_cheapest_23 rfl (lv_at hl 0 rfl) ?_
    refine lv_iload_n hx hb dX5_cheapest_24 rfl (lv_at hl 3 rfl) ?_
    obtain ⟨r2, er2, hw⟩ := lxb_o hw
    refine hg_ci (va_runV (As := [.int v12.1]) (rest := []) ⟨hx, hb, hml, hown, hts⟩ (c_X5_priceOf l dC dI cI cZ cM _ o_h v12.1 o_players o_bars o_price o_breath o_kind o_looks o_noise o_repeat o_now o_readPlayer o_readBar o_readPlayers o_readBars o_text o_length o_at o_faultAt o_acts o_next o_row o_heard o_heardOf o_heardBars o_heardPlays o_hushWho o_hushSum o_seed o_isKept o_kept o_price_v np enp (by omega) nb enb (by omega) r2 er2) (cwV 1 hts gX5_cheapest_X5_priceOf rfl rfl rfl (by decide +kernel) ⟨Nat.le_of_ble_eq_true rfl, Nat.le_of_ble_eq_true rfl⟩) (hgPreV (C := RX5) (T := TX5) (N := 29) (ci := 5) (q0 := 0) hP hD hK hN [0, 2] rfl rfl rfl rfl) rfl rfl hl.1 rfl (lv_room (Nat.le_of_ble_eq_true rfl)) dX5_cheapest_25 ⟨Nat.zero_le _, Nat.zero_le _⟩) hP hD hS hA (wr := [(o_now, .inl (cI, 32, .inl v12.2)), (o_noise, .inl (cI, 8, .inl o_noise_v)), (o_kind, .inl (cI, 6, .inl o_kind_v)), (o_looks, .inl (cI, 6, .inl o_looks_v)), (o_repeat, .inl (cI, 8, .inl o_repeat_v))]) (wf := [(o_h, .inr (5, [.int o_players, .int o_bars, .ref o_price, .ref o_breath, .ref o_kind, .ref o_looks, .ref o_noise, .ref o_repeat, .ref o_now, .ref o_readPlayer, .ref o_readBar, .int o_readPlayers, .int o_readBars, .ref o_text, .int o_length, .int o_at, .int o_faultAt, .int o_acts, .int o_next, .ref o_row, .int o_heard, .ref o_heardOf, .ref o_heardBars, .ref o_heardPlays, .int o_hushWho, .int o_hushSum, .long o_seed, .ref o_isKept, .ref o_kept])), (o_now, .inl (cI, 32, .inl v12.2)), (o_price, .inl (cI, 6, .inl o_price_v)), (o_noise, .inl (cI, 8, .inl o_noise_v)), (o_kind, .inl (cI, 6, .inl o_kind_v)), (o_looks, .inl (cI, 6, .inl o_looks_v)), (o_repeat, .inl (cI, 8, .inl o_repeat_v))]) [0, 2] [1, 3, 4, 5, 6] [5, 0, 6, 1, 2, 3, 4] rfl rfl rfl (by decide) rfl rfl (fun H locs hP hD hS => ?_)
    refine lv_aload_n hx hb dX5_cheapest_28 rfl (lv_at hl 0 rfl) ?_
    refine lv_iload hx hb dX5_cheapest_29 (lv_at hl 4 rfl) ?_
    obtain ⟨r3, er3, hw⟩ := lxb_o hw
    refine hg_ci (va_runV (As := [.int (nI k12)]) (rest := [.int r2]) ⟨hx, hb, hml, hown, hts⟩ (c_X5_priceOf l dC dI cI cZ cM _ o_h (nI k12) o_players o_bars o_price o_breath o_kind o_looks o_noise o_repeat o_now o_readPlayer o_readBar o_readPlayers o_readBars o_text o_length o_at o_faultAt o_acts o_next o_row o_heard o_heardOf o_heardBars o_heardPlays o_hushWho o_hushSum o_seed o_isKept o_kept o_price_v np enp (by omega) nb enb (by omega) r3 er3) (cwV 1 hts gX5_cheapest_X5_priceOf rfl rfl rfl (by decide +kernel) ⟨Nat.le_of_ble_eq_true rfl, Nat.le_of_ble_eq_true rfl⟩) (hgPreV (C := RX5) (T := TX5) (N := 29) (ci := 5) (q0 := 0) hP hD hK hN [0, 2] rfl rfl rfl rfl) rfl rfl hl.1 rfl (lv_room (Nat.le_of_ble_eq_true rfl)) dX5_cheapest_31 ⟨Nat.zero_le _, Nat.zero_le _⟩) hP hD hS hA (wr := [(o_now, .inl (cI, 32, .inl v12.2)), (o_noise, .inl (cI, 8, .inl o_noise_v)), (o_kind, .inl (cI, 6, .inl o_kind_v)), (o_looks, .inl (cI, 6, .inl o_looks_v)), (o_repeat, .inl (cI, 8, .inl o_repeat_v))]) (wf := [(o_h, .inr (5, [.int o_players, .int o_bars, .ref o_price, .ref o_breath, .ref o_kind, .ref o_looks, .ref o_noise, .ref o_repeat, .ref o_now, .ref o_readPlayer, .ref o_readBar, .int o_readPlayers, .int o_readBars, .ref o_text, .int o_length, .int o_at, .int o_faultAt, .int o_acts, .int o_next, .ref o_row, .int o_heard, .ref o_heardOf, .ref o_heardBars, .ref o_heardPlays, .int o_hushWho, .int o_hushSum, .long o_seed, .ref o_isKept, .ref o_kept])), (o_now, .inl (cI, 32, .inl v12.2)), (o_price, .inl (cI, 6, .inl o_price_v)), (o_noise, .inl (cI, 8, .inl o_noise_v)), (o_kind, .inl (cI, 6, .inl o_kind_v)), (o_looks, .inl (cI, 6, .inl o_looks_v)), (o_repeat, .inl (cI, 8, .inl o_repeat_v))]) [0, 2] [1, 3, 4, 5, 6] [5, 0, 6, 1, 2, 3, 4] rfl rfl rfl (by decide) rfl rfl (fun H locs hP hD hS => ?_)
    refine lv_isub hx hb dX5_cheapest_34 ?_
    refine lv_istore (lv' := [(5, .int (r2 - r3)), (0, .ref o_h), (1, .int x0), (2, .int r1), (3, .int v12.1), (4, .int (nI k12))]) hx hb dX5_cheapest_35 hl (by decide) rfl (fun ls hl => ?_)
    refine lv_iload hx hb dX5_cheapest_37 (lv_at hl 0 rfl) ?_
    obtain ⟨z4, ez4, hw⟩ := lxb_o hw
    refine hg_cut (D := (dC, dI)) (A0 := A) (H0 := s.heap) (ws := [(o_h, .inr (5, [.int o_players, .int o_bars, .ref o_price, .ref o_breath, .ref o_kind, .ref o_looks, .ref o_noise, .ref o_repeat, .ref o_now, .ref o_readPlayer, .ref o_readBar, .int o_readPlayers, .int o_readBars, .ref o_text, .int o_length, .int o_at, .int o_faultAt, .int o_acts, .int o_next, .ref o_row, .int o_heard, .ref o_heardOf, .ref o_heardBars, .ref o_heardPlays, .int o_hushWho, .int o_hushSum, .long o_seed, .ref o_isKept, .ref o_kept])), (o_now, .inl (cI, 32, .inl v12.2)), (o_price, .inl (cI, 6, .inl o_price_v)), (o_noise, .inl (cI, 8, .inl o_noise_v)), (o_kind, .inl (cI, 6, .inl o_kind_v)), (o_looks, .inl (cI, 6, .inl o_looks_v)), (o_repeat, .inl (cI, 8, .inl o_repeat_v))]) (g := F0 m 82 ls [.int z4]) ?_ (fun hJ => ?_)
    · intro H locs hP hD hS
      refine lv_istore (lv' := [(6, .int z4), (5, .int (r2 - r3)), (0, .ref o_h), (1, .int x0), (2, .int r1), (3, .int v12.1), (4, .int (nI k12))]) hx hb dX5_cheapest_82 hl (by decide) rfl (fun ls hl => ?_)
      refine lv_iload hx hb dX5_cheapest_84 (lv_at hl 6 rfl) ?_
      refine lv_iload_n hx hb dX5_cheapest_86 rfl (lv_at hl 4 rfl) ?_
      refine lv_iconst (v := (-1)) hx hb dX5_cheapest_87 (by decide) ?_
      refine lv_ixor hx hb dX5_cheapest_88 ?_
      refine lv_iand hx hb dX5_cheapest_89 ?_
      refine lv_if_ne (tgt := 113) hx hb dX5_cheapest_90 (by decide) (fun c_90 => ?_) (fun c_90 => ?_)
      · have hw := hw.trans (if_neg c_90)
        refine lv_iload_n hx hb dX5_cheapest_113 rfl (lv_at hl 5 rfl) ?_
        refine lv_istore_n (lv' := [(3, .int v12.1), (6, .int z4), (5, .int (r2 - r3)), (0, .ref o_h), (1, .int x0), (2, .int r1), (4, .int (nI k12))]) hx hb dX5_cheapest_114 rfl hl (by decide) rfl (fun ls hl => ?_)
        refine lv_iinc (v := nI (k12 + 1)) (lv' := [(4, .int (nI (k12 + 1))), (3, .int v12.1), (6, .int z4), (5, .int (r2 - r3)), (0, .ref o_h), (1, .int x0), (2, .int r1)]) hx hb dX5_cheapest_115 hl (k := 6) rfl (nI_1 k12) (by decide) rfl (fun ls hl => ?_)
        refine lv_goto (tgt := 12) hx hb dX5_cheapest_118 (by decide) ?_
        subst hw
        exact ih hJ12 _ _ _ hP hD hS (lv_sub hl [4, 5, 6, 1, 0] rfl)
      · have hw := hw.trans (if_pos c_90)
        refine lv_iload hx hb dX5_cheapest_93 (lv_at hl 0 rfl) ?_
        refine lv_if_eq (tgt := 113) hx hb dX5_cheapest_95 (by decide) (fun c_95 => ?_) (fun c_95 => ?_)
        · have hw := hw.trans (if_pos c_95)
          refine lv_iload_n hx hb dX5_cheapest_113 rfl (lv_at hl 5 rfl) ?_
          refine lv_istore_n (lv' := [(3, .int v12.1), (6, .int z4), (5, .int (r2 - r3)), (0, .ref o_h), (1, .int x0), (2, .int r1), (4, .int (nI k12))]) hx hb dX5_cheapest_114 rfl hl (by decide) rfl (fun ls hl => ?_)
          refine lv_iinc (v := nI (k12 + 1)) (lv' := [(4, .int (nI (k12 + 1))), (3, .int v12.1), (6, .int z4), (5, .int (r2 - r3)), (0, .ref o_h), (1, .int x0), (2, .int r1)]) hx hb dX5_cheapest_115 hl (k := 6) rfl (nI_1 k12) (by decide) rfl (fun ls hl => ?_)
          refine lv_goto (tgt := 12) hx hb dX5_cheapest_118 (by decide) ?_
          subst hw
          exact ih hJ12 _ _ _ hP hD hS (lv_sub hl [4, 5, 6, 1, 0] rfl)
        · have hw := hw.trans (if_neg c_95)
          refine lv_aload_n hx hb dX5_cheapest_98 rfl (lv_at hl 2 rfl) ?_
          refine lv_iload hx hb dX5_cheapest_99 (lv_at hl 6 rfl) ?_
          refine lv_iload_n hx hb dX5_cheapest_101 rfl (lv_at hl 3 rfl) ?_
          obtain ⟨r9, er9, hw⟩ := lxb_o hw
          refine hg_ciE (va_runV (As := [.int (nI k12), .int x0]) (rest := []) ⟨hx, hb, hml, hown, hts⟩ (c_X5_isHushed l dC dI cI cZ cM _ o_h (nI k12) x0 o_players o_bars o_price o_breath o_kind o_looks o_noise o_repeat o_now o_readPlayer o_readBar o_readPlayers o_readBars o_text o_length o_at o_faultAt o_acts o_next o_row o_heard o_heardOf o_heardBars o_heardPlays o_hushWho o_hushSum o_seed o_isKept o_kept v12.2 o_noise_v o_kind_v o_looks_v o_repeat_v np enp (by omega) nb enb (by omega) hJ12 r9 er9) (cwV 2 hts gX5_cheapest_X5_isHushed rfl rfl rfl (by decide +kernel) ⟨Nat.le_of_ble_eq_true rfl, Nat.le_of_ble_eq_true rfl⟩) (hgPreV (C := RX5) (T := TX5) (N := 29) (ci := 5) (q0 := 0) hP hD hK hN [0, 1, 3, 4, 5, 6] rfl rfl rfl rfl) rfl rfl hl.1 rfl (lv_room (Nat.le_of_ble_eq_true rfl)) dX5_cheapest_102 ⟨Nat.zero_le _, Nat.zero_le _⟩) hP hD hS hA (wr := [(o_price, .inl (cI, 6, .inl o_price_v))]) (wf := [(o_h, .inr (5, [.int o_players, .int o_bars, .ref o_price, .ref o_breath, .ref o_kind, .ref o_looks, .ref o_noise, .ref o_repeat, .ref o_now, .ref o_readPlayer, .ref o_readBar, .int o_readPlayers, .int o_readBars, .ref o_text, .int o_length, .int o_at, .int o_faultAt, .int o_acts, .int o_next, .ref o_row, .int o_heard, .ref o_heardOf, .ref o_heardBars, .ref o_heardPlays, .int o_hushWho, .int o_hushSum, .long o_seed, .ref o_isKept, .ref o_kept])), (o_now, .inl (cI, 32, .inl r9.2)), (o_price, .inl (cI, 6, .inl o_price_v)), (o_noise, .inl (cI, 8, .inl o_noise_v)), (o_kind, .inl (cI, 6, .inl o_kind_v)), (o_looks, .inl (cI, 6, .inl o_looks_v)), (o_repeat, .inl (cI, 8, .inl o_repeat_v))]) [0, 1, 3, 4, 5, 6] [2] [1, 2, 0, 3, 4, 5, 6] rfl rfl rfl (by decide) rfl rfl (fun hB10 H locs hP hD hS => ?_)
          obtain ⟨z11, ez11, hw⟩ := lxb_o hw
          refine hg_cut (D := (dC, dI)) (A0 := A) (H0 := s.heap) (ws := [(o_h, .inr (5, [.int o_players, .int o_bars, .ref o_price, .ref o_breath, .ref o_kind, .ref o_looks, .ref o_noise, .ref o_repeat, .ref o_now, .ref o_readPlayer, .ref o_readBar, .int o_readPlayers, .int o_readBars, .ref o_text, .int o_length, .int o_at, .int o_faultAt, .int o_acts, .int o_next, .ref o_row, .int o_heard, .ref o_heardOf, .ref o_heardBars, .ref o_heardPlays, .int o_hushWho, .int o_hushSum, .long o_seed, .ref o_isKept, .ref o_kept])), (o_now, .inl (cI, 32, .inl r9.2)), (o_price, .inl (cI, 6, .inl o_price_v)), (o_noise, .inl (cI, 8, .inl o_noise_v)), (o_kind, .inl (cI, 6, .inl o_kind_v)), (o_looks, .inl (cI, 6, .inl o_looks_v)), (o_repeat, .inl (cI, 8, .inl o_repeat_v))]) (g := F0 m 114 ls [.int z11]) ?_ (fun hJ => ?_)
          · intro H locs hP hD hS
            refine lv_istore_n (lv' := [(3, .int z11), (6, .int z4), (5, .int (r2 - r3)), (0, .ref o_h), (1, .int x0), (2, .int r1), (4, .int (nI k12))]) hx hb dX5_cheapest_114 rfl hl (by decide) rfl (fun ls hl => ?_)
            refine lv_iinc (v := nI (k12 + 1)) (lv' := [(4, .int (nI (k12 + 1))), (3, .int z11), (6, .int z4), (5, .int (r2 - r3)), (0, .ref o_h), (1, .int x0), (2, .int r1)]) hx hb dX5_cheapest_115 hl (k := 6) rfl (nI_1 k12) (by decide) rfl (fun ls hl => ?_)
            refine lv_goto (tgt := 12) hx hb dX5_cheapest_118 (by decide) ?_
            subst hw
            exact ih hB10 _ _ _ hP hD hS (lv_sub hl [4, 5, 6, 1, 0] rfl)
          · refine lv_if_eq (tgt := 113) hx hb dX5_cheapest_105 (by decide) (fun c_105 => ?_) (fun c_105 => ?_)
            · have ez11 := ez11.trans (if_pos c_105)
              refine lv_iload_n hx hb dX5_cheapest_113 rfl (lv_at hl 5 rfl) ?_
              subst ez11
              exact hJ _ _ hP hD hS
            · have ez11 := ez11.trans (if_neg c_105)
              refine lv_iload hx hb dX5_cheapest_108 (lv_at hl 6 rfl) ?_
              refine lv_goto (tgt := 114) hx hb dX5_cheapest_110 (by decide) ?_
              subst ez11
              exact hJ _ _ hP hD hS
    · refine lv_if_gt (tgt := 77) hx hb dX5_cheapest_39 (by decide) (fun c_39 => ?_) (fun c_39 => ?_)
      · have ez4 := ez4.trans (if_pos c_39)
        refine lv_iconst (v := 1) hx hb dX5_cheapest_77 (by decide) ?_
        refine lv_goto (tgt := 82) hx hb dX5_cheapest_78 (by decide) ?_
        subst ez4
        exact hJ _ _ hP hD hS
      · have ez4 := ez4.trans (if_neg c_39)
        refine lv_iload hx hb dX5_cheapest_42 (lv_at hl 0 rfl) ?_
        refine lv_if_ne (tgt := 81) hx hb dX5_cheapest_44 (by decide) (fun c_44 => ?_) (fun c_44 => ?_)
        · have ez4 := ez4.trans (if_neg c_44)
          refine lv_iconst (v := 0) hx hb dX5_cheapest_81 (by decide) ?_
          subst ez4
          exact hJ _ _ hP hD hS
        · have ez4 := ez4.trans (if_pos c_44)
          refine lv_iload hx hb dX5_cheapest_47 (lv_at hl 5 rfl) ?_
          obtain ⟨r5, er5, ez4⟩ := lxb_o ez4
          refine hg_ci (va_runS (As := [.int (nI k12)]) (rest := []) ⟨hx, hb, hml, hown, hts⟩ (c_X5_ones l dC dI cI cZ cM _ (nI k12) r5 er5) (va_cwS 1 hts gX5_cheapest_X5_ones rfl rfl rfl (by decide +kernel) ⟨Nat.le_of_ble_eq_true rfl, Nat.le_of_ble_eq_true rfl⟩) (hgPreS hP hD hK hN [] rfl rfl) rfl rfl hl.1 rfl (lv_room (Nat.le_of_ble_eq_true rfl)) dX5_cheapest_49 ⟨Nat.zero_le _, Nat.zero_le _⟩) hP hD hS hA (wr := [(o_h, .inr (5, [.int o_players, .int o_bars, .ref o_price, .ref o_breath, .ref o_kind, .ref o_looks, .ref o_noise, .ref o_repeat, .ref o_now, .ref o_readPlayer, .ref o_readBar, .int o_readPlayers, .int o_readBars, .ref o_text, .int o_length, .int o_at, .int o_faultAt, .int o_acts, .int o_next, .ref o_row, .int o_heard, .ref o_heardOf, .ref o_heardBars, .ref o_heardPlays, .int o_hushWho, .int o_hushSum, .long o_seed, .ref o_isKept, .ref o_kept])), (o_now, .inl (cI, 32, .inl v12.2)), (o_price, .inl (cI, 6, .inl o_price_v)), (o_noise, .inl (cI, 8, .inl o_noise_v)), (o_kind, .inl (cI, 6, .inl o_kind_v)), (o_looks, .inl (cI, 6, .inl o_looks_v)), (o_repeat, .inl (cI, 8, .inl o_repeat_v))]) (wf := [(o_h, .inr (5, [.int o_players, .int o_bars, .ref o_price, .ref o_breath, .ref o_kind, .ref o_looks, .ref o_noise, .ref o_repeat, .ref o_now, .ref o_readPlayer, .ref o_readBar, .int o_readPlayers, .int o_readBars, .ref o_text, .int o_length, .int o_at, .int o_faultAt, .int o_acts, .int o_next, .ref o_row, .int o_heard, .ref o_heardOf, .ref o_heardBars, .ref o_heardPlays, .int o_hushWho, .int o_hushSum, .long o_seed, .ref o_isKept, .ref o_kept])), (o_now, .inl (cI, 32, .inl v12.2)), (o_price, .inl (cI, 6, .inl o_price_v)), (o_noise, .inl (cI, 8, .inl o_noise_v)), (o_kind, .inl (cI, 6, .inl o_kind_v)), (o_looks, .inl (cI, 6, .inl o_looks_v)), (o_repeat, .inl (cI, 8, .inl o_repeat_v))]) [] [0, 1, 2, 3, 4, 5, 6] [0, 1, 2, 3, 4, 5, 6] rfl rfl rfl (by decide) rfl rfl (fun H locs hP hD hS => ?_)
          refine lv_iload_n hx hb dX5_cheapest_52 rfl (lv_at hl 4 rfl) ?_
          obtain ⟨r6, er6, ez4⟩ := lxb_o ez4
          refine hg_ci (va_runS (As := [.int v12.1]) (rest := [.int r5]) ⟨hx, hb, hml, hown, hts⟩ (c_X5_ones l dC dI cI cZ cM _ v12.1 r6 er6) (va_cwS 1 hts gX5_cheapest_X5_ones rfl rfl rfl (by decide +kernel) ⟨Nat.le_of_ble_eq_true rfl, Nat.le_of_ble_eq_true rfl⟩) (hgPreS hP hD hK hN [] rfl rfl) rfl rfl hl.1 rfl (lv_room (Nat.le_of_ble_eq_true rfl)) dX5_cheapest_53 ⟨Nat.zero_le _, Nat.zero_le _⟩) hP hD hS hA (wr := [(o_h, .inr (5, [.int o_players, .int o_bars, .ref o_price, .ref o_breath, .ref o_kind, .ref o_looks, .ref o_noise, .ref o_repeat, .ref o_now, .ref o_readPlayer, .ref o_readBar, .int o_readPlayers, .int o_readBars, .ref o_text, .int o_length, .int o_at, .int o_faultAt, .int o_acts, .int o_next, .ref o_row, .int o_heard, .ref o_heardOf, .ref o_heardBars, .ref o_heardPlays, .int o_hushWho, .int o_hushSum, .long o_seed, .ref o_isKept, .ref o_kept])), (o_now, .inl (cI, 32, .inl v12.2)), (o_price, .inl (cI, 6, .inl o_price_v)), (o_noise, .inl (cI, 8, .inl o_noise_v)), (o_kind, .inl (cI, 6, .inl o_kind_v)), (o_looks, .inl (cI, 6, .inl o_looks_v)), (o_repeat, .inl (cI, 8, .inl o_repeat_v))]) (wf := [(o_h, .inr (5, [.int o_players, .int o_bars, .ref o_price, .ref o_breath, .ref o_kind, .ref o_looks, .ref o_noise, .ref o_repeat, .ref o_now, .ref o_readPlayer, .ref o_readBar, .int o_readPlayers, .int o_readBars, .ref o_text, .int o_length, .int o_at, .int o_faultAt, .int o_acts, .int o_next, .ref o_row, .int o_heard, .ref o_heardOf, .ref o_heardBars, .ref o_heardPlays, .int o_hushWho, .int o_hushSum, .long o_seed, .ref o_isKept, .ref o_kept])), (o_now, .inl (cI, 32, .inl v12.2)), (o_price, .inl (cI, 6, .inl o_price_v)), (o_noise, .inl (cI, 8, .inl o_noise_v)), (o_kind, .inl (cI, 6, .inl o_kind_v)), (o_looks, .inl (cI, 6, .inl o_looks_v)), (o_repeat, .inl (cI, 8, .inl o_repeat_v))]) [] [0, 1, 2, 3, 4, 5, 6] [0, 1, 2, 3, 4, 5, 6] rfl rfl rfl (by decide) rfl rfl (fun H locs hP hD hS => ?_)
          refine lv_icmp_lt (tgt := 77) hx hb dX5_cheapest_56 (by decide) (fun c_56 => ?_) (fun c_56 => ?_)
          · have ez4 := ez4.trans (if_pos c_56)
            refine lv_iconst (v := 1) hx hb dX5_cheapest_77 (by decide) ?_
            refine lv_goto (tgt := 82) hx hb dX5_cheapest_78 (by decide) ?_
            subst ez4
            exact hJ _ _ hP hD hS
          · have ez4 := ez4.trans (if_neg c_56)
            refine lv_iload hx hb dX5_cheapest_59 (lv_at hl 5 rfl) ?_
            obtain ⟨r7, er7, ez4⟩ := lxb_o ez4
            refine hg_ci (va_runS (As := [.int (nI k12)]) (rest := []) ⟨hx, hb, hml, hown, hts⟩ (c_X5_ones l dC dI cI cZ cM _ (nI k12) r7 er7) (va_cwS 1 hts gX5_cheapest_X5_ones rfl rfl rfl (by decide +kernel) ⟨Nat.le_of_ble_eq_true rfl, Nat.le_of_ble_eq_true rfl⟩) (hgPreS hP hD hK hN [] rfl rfl) rfl rfl hl.1 rfl (lv_room (Nat.le_of_ble_eq_true rfl)) dX5_cheapest_61 ⟨Nat.zero_le _, Nat.zero_le _⟩) hP hD hS hA (wr := [(o_h, .inr (5, [.int o_players, .int o_bars, .ref o_price, .ref o_breath, .ref o_kind, .ref o_looks, .ref o_noise, .ref o_repeat, .ref o_now, .ref o_readPlayer, .ref o_readBar, .int o_readPlayers, .int o_readBars, .ref o_text, .int o_length, .int o_at, .int o_faultAt, .int o_acts, .int o_next, .ref o_row, .int o_heard, .ref o_heardOf, .ref o_heardBars, .ref o_heardPlays, .int o_hushWho, .int o_hushSum, .long o_seed, .ref o_isKept, .ref o_kept])), (o_now, .inl (cI, 32, .inl v12.2)), (o_price, .inl (cI, 6, .inl o_price_v)), (o_noise, .inl (cI, 8, .inl o_noise_v)), (o_kind, .inl (cI, 6, .inl o_kind_v)), (o_looks, .inl (cI, 6, .inl o_looks_v)), (o_repeat, .inl (cI, 8, .inl o_repeat_v))]) (wf := [(o_h, .inr (5, [.int o_players, .int o_bars, .ref o_price, .ref o_breath, .ref o_kind, .ref o_looks, .ref o_noise, .ref o_repeat, .ref o_now, .ref o_readPlayer, .ref o_readBar, .int o_readPlayers, .int o_readBars, .ref o_text, .int o_length, .int o_at, .int o_faultAt, .int o_acts, .int o_next, .ref o_row, .int o_heard, .ref o_heardOf, .ref o_heardBars, .ref o_heardPlays, .int o_hushWho, .int o_hushSum, .long o_seed, .ref o_isKept, .ref o_kept])), (o_now, .inl (cI, 32, .inl v12.2)), (o_price, .inl (cI, 6, .inl o_price_v)), (o_noise, .inl (cI, 8, .inl o_noise_v)), (o_kind, .inl (cI, 6, .inl o_kind_v)), (o_looks, .inl (cI, 6, .inl o_looks_v)), (o_repeat, .inl (cI, 8, .inl o_repeat_v))]) [] [0, 1, 2, 3, 4, 5, 6] [0, 1, 2, 3, 4, 5, 6] rfl rfl rfl (by decide) rfl rfl (fun H locs hP hD hS => ?_)
            refine lv_iload_n hx hb dX5_cheapest_64 rfl (lv_at hl 4 rfl) ?_
            obtain ⟨r8, er8, ez4⟩ := lxb_o ez4
            refine hg_ci (va_runS (As := [.int v12.1]) (rest := [.int r7]) ⟨hx, hb, hml, hown, hts⟩ (c_X5_ones l dC dI cI cZ cM _ v12.1 r8 er8) (va_cwS 1 hts gX5_cheapest_X5_ones rfl rfl rfl (by decide +kernel) ⟨Nat.le_of_ble_eq_true rfl, Nat.le_of_ble_eq_true rfl⟩) (hgPreS hP hD hK hN [] rfl rfl) rfl rfl hl.1 rfl (lv_room (Nat.le_of_ble_eq_true rfl)) dX5_cheapest_65 ⟨Nat.zero_le _, Nat.zero_le _⟩) hP hD hS hA (wr := [(o_h, .inr (5, [.int o_players, .int o_bars, .ref o_price, .ref o_breath, .ref o_kind, .ref o_looks, .ref o_noise, .ref o_repeat, .ref o_now, .ref o_readPlayer, .ref o_readBar, .int o_readPlayers, .int o_readBars, .ref o_text, .int o_length, .int o_at, .int o_faultAt, .int o_acts, .int o_next, .ref o_row, .int o_heard, .ref o_heardOf, .ref o_heardBars, .ref o_heardPlays, .int o_hushWho, .int o_hushSum, .long o_seed, .ref o_isKept, .ref o_kept])), (o_now, .inl (cI, 32, .inl v12.2)), (o_price, .inl (cI, 6, .inl o_price_v)), (o_noise, .inl (cI, 8, .inl o_noise_v)), (o_kind, .inl (cI, 6, .inl o_kind_v)), (o_looks, .inl (cI, 6, .inl o_looks_v)), (o_repeat, .inl (cI, 8, .inl o_repeat_v))]) (wf := [(o_h, .inr (5, [.int o_players, .int o_bars, .ref o_price, .ref o_breath, .ref o_kind, .ref o_looks, .ref o_noise, .ref o_repeat, .ref o_now, .ref o_readPlayer, .ref o_readBar, .int o_readPlayers, .int o_readBars, .ref o_text, .int o_length, .int o_at, .int o_faultAt, .int o_acts, .int o_next, .ref o_row, .int o_heard, .ref o_heardOf, .ref o_heardBars, .ref o_heardPlays, .int o_hushWho, .int o_hushSum, .long o_seed, .ref o_isKept, .ref o_kept])), (o_now, .inl (cI, 32, .inl v12.2)), (o_price, .inl (cI, 6, .inl o_price_v)), (o_noise, .inl (cI, 8, .inl o_noise_v)), (o_kind, .inl (cI, 6, .inl o_kind_v)), (o_looks, .inl (cI, 6, .inl o_looks_v)), (o_repeat, .inl (cI, 8, .inl o_repeat_v))]) [] [0, 1, 2, 3, 4, 5, 6] [0, 1, 2, 3, 4, 5, 6] rfl rfl rfl (by decide) rfl rfl (fun H locs hP hD hS => ?_)
            refine lv_icmp_ne (tgt := 81) hx hb dX5_cheapest_68 (by decide) (fun c_68 => ?_) (fun c_68 => ?_)
            · have ez4 := ez4.trans (if_neg c_68)
              refine lv_iconst (v := 0) hx hb dX5_cheapest_81 (by decide) ?_
              subst ez4
              exact hJ _ _ hP hD hS
            · have ez4 := ez4.trans (if_pos c_68)
              refine lv_iload hx hb dX5_cheapest_71 (lv_at hl 5 rfl) ?_
              refine lv_iload_n hx hb dX5_cheapest_73 rfl (lv_at hl 4 rfl) ?_
              refine lv_icmp_ge (tgt := 81) hx hb dX5_cheapest_74 (by decide) (fun c_74 => ?_) (fun c_74 => ?_)
              · have ez4 := ez4.trans (if_pos c_74)
                refine lv_iconst (v := 0) hx hb dX5_cheapest_81 (by decide) ?_
                subst ez4
                exact hJ _ _ hP hD hS
              · have ez4 := ez4.trans (if_neg c_74)
                refine lv_iconst (v := 1) hx hb dX5_cheapest_77 (by decide) ?_
                refine lv_goto (tgt := 82) hx hb dX5_cheapest_78 (by decide) ?_
                subst ez4
                exact hJ _ _ hP hD hS

set_option maxHeartbeats 4000000 in
set_option maxRecDepth 100000 in
theorem c_X5_hush (l : Launch) (dC : Nat → ClassId) (dI : Nat → Nat → Nat) (cI cZ cM : ClassId) (sz : Nat) (o_h : Nat) (x0 : Int32) (x1 : Int32) (o_players : Int32) (o_bars : Int32) (o_price : Nat) (o_breath : Nat) (o_kind : Nat) (o_looks : Nat) (o_noise : Nat) (o_repeat : Nat) (o_now : Nat) (o_readPlayer : Nat) (o_readBar : Nat) (o_readPlayers : Int32) (o_readBars : Int32) (o_text : Nat) (o_length : Int32) (o_at : Int32) (o_faultAt : Int32) (o_acts : Int32) (o_next : Int32) (o_row : Nat) (o_heard : Int32) (o_heardOf : Nat) (o_heardBars : Nat) (o_heardPlays : Nat) (o_hushWho : Int32) (o_hushSum : Int32) (o_seed : Int64) (o_isKept : Nat) (o_kept : Nat) (o_now_v : Nat → Int32) (o_price_v : Nat → Int32) (o_noise_v : Nat → Int32) (o_kind_v : Nat → Int32) (o_looks_v : Nat → Int32) (o_repeat_v : Nat → Int32) (np : Nat) (enp : o_players = nI np) (hnp : np ≤ 6) (nb : Nat) (enb : o_bars = nI nb) (hnb : nb ≤ 8) (hB : mB o_now_v) (u : Int32 × (Nat → Int32)) (hu : u = f_X5_hush x0 x1 o_players o_bars o_now_v o_price_v o_noise_v o_kind_v o_looks_v o_repeat_v) : Met l yX5_hush wsX5_hush { frames := 8, cells := 0, slots := 0, locals := 188 } (hgPc [.ref o_h, .int x0, .int x1] (dC, dI) cI cZ cM [(o_h, .inr (5, [.int o_players, .int o_bars, .ref o_price, .ref o_breath, .ref o_kind, .ref o_looks, .ref o_noise, .ref o_repeat, .ref o_now, .ref o_readPlayer, .ref o_readBar, .int o_readPlayers, .int o_readBars, .ref o_text, .int o_length, .int o_at, .int o_faultAt, .int o_acts, .int o_next, .ref o_row, .int o_heard, .ref o_heardOf, .ref o_heardBars, .ref o_heardPlays, .int o_hushWho, .int o_hushSum, .long o_seed, .ref o_isKept, .ref o_kept])), (o_now, .inl (cI, 32, .inl o_now_v)), (o_price, .inl (cI, 6, .inl o_price_v)), (o_noise, .inl (cI, 8, .inl o_noise_v)), (o_kind, .inl (cI, 6, .inl o_kind_v)), (o_looks, .inl (cI, 6, .inl o_looks_v)), (o_repeat, .inl (cI, 8, .inl o_repeat_v))] sz) (hgQi (dC, dI) u.1 [(o_h, .inr (5, [.int o_players, .int o_bars, .ref o_price, .ref o_breath, .ref o_kind, .ref o_looks, .ref o_noise, .ref o_repeat, .ref o_now, .ref o_readPlayer, .ref o_readBar, .int o_readPlayers, .int o_readBars, .ref o_text, .int o_length, .int o_at, .int o_faultAt, .int o_acts, .int o_next, .ref o_row, .int o_heard, .ref o_heardOf, .ref o_heardBars, .ref o_heardPlays, .int o_hushWho, .int o_hushSum, .long o_seed, .ref o_isKept, .ref o_kept])), (o_now, .inl (cI, 32, .inl u.2)), (o_price, .inl (cI, 6, .inl o_price_v)), (o_noise, .inl (cI, 8, .inl o_noise_v)), (o_kind, .inl (cI, 6, .inl o_kind_v)), (o_looks, .inl (cI, 6, .inl o_looks_v)), (o_repeat, .inl (cI, 8, .inl o_repeat_v))] (va_A [(o_h, .inr (5, [.int o_players, .int o_bars, .ref o_price, .ref o_breath, .ref o_kind, .ref o_looks, .ref o_noise, .ref o_repeat, .ref o_now, .ref o_readPlayer, .ref o_readBar, .int o_readPlayers, .int o_readBars, .ref o_text, .int o_length, .int o_at, .int o_faultAt, .int o_acts, .int o_next, .ref o_row, .int o_heard, .ref o_heardOf, .ref o_heardBars, .ref o_heardPlays, .int o_hushWho, .int o_hushSum, .long o_seed, .ref o_isKept, .ref o_kept])), (o_now, .inl (cI, 32, .inl o_now_v)), (o_price, .inl (cI, 6, .inl o_price_v)), (o_noise, .inl (cI, 8, .inl o_noise_v)), (o_kind, .inl (cI, 6, .inl o_kind_v)), (o_looks, .inl (cI, 6, .inl o_looks_v)), (o_repeat, .inl (cI, 8, .inl o_repeat_v))] sz)) 0 0 (va_A [(o_h, .inr (5, [.int o_players, .int o_bars, .ref o_price, .ref o_breath, .ref o_kind, .ref o_looks, .ref o_noise, .ref o_repeat, .ref o_now, .ref o_readPlayer, .ref o_readBar, .int o_readPlayers, .int o_readBars, .ref o_text, .int o_length, .int o_at, .int o_faultAt, .int o_acts, .int o_next, .ref o_row, .int o_heard, .ref o_heardOf, .ref o_heardBars, .ref o_heardPlays, .int o_hushWho, .int o_hushSum, .long o_seed, .ref o_isKept, .ref o_kept])), (o_now, .inl (cI, 32, .inl o_now_v)), (o_price, .inl (cI, 6, .inl o_price_v)), (o_noise, .inl (cI, 8, .inl o_noise_v)), (o_kind, .inl (cI, 6, .inl o_kind_v)), (o_looks, .inl (cI, 6, .inl o_looks_v)), (o_repeat, .inl (cI, 8, .inl o_repeat_v))] sz) := by
  refine hg_ofW (cc := cX5_hush) (maxL := 4) (ret := (some .int)) (own := RX5) (fun A => hgQi (dC, dI) u.1 [(o_h, .inr (5, [.int o_players, .int o_bars, .ref o_price, .ref o_breath, .ref o_kind, .ref o_looks, .ref o_noise, .ref o_repeat, .ref o_now, .ref o_readPlayer, .ref o_readBar, .int o_readPlayers, .int o_readBars, .ref o_text, .int o_length, .int o_at, .int o_faultAt, .int o_acts, .int o_next, .ref o_row, .int o_heard, .ref o_heardOf, .ref o_heardBars, .ref o_heardPlays, .int o_hushWho, .int o_hushSum, .long o_seed, .ref o_isKept, .ref o_kept])), (o_now, .inl (cI, 32, .inl u.2)), (o_price, .inl (cI, 6, .inl o_price_v)), (o_noise, .inl (cI, 8, .inl o_noise_v)), (o_kind, .inl (cI, 6, .inl o_kind_v)), (o_looks, .inl (cI, 6, .inl o_looks_v)), (o_repeat, .inl (cI, 8, .inl o_repeat_v))] A) rfl (by decide) rfl (Nat.le_of_ble_eq_true rfl) ?_
  intro p e s m below meth c ls A hsz hx hb hr hml hown hts hlk hnm hK hN hA hP hD hS hl
  subst hsz
  have w1 := hts (.constantLong RX5 142 (9)) (List.mem_of_getElem? (i := 1) rfl)
  have hl : lv_has ls 4 [(0, .ref o_h), (1, .int x0), (2, .int x1)] := hl
  unfold f_X5_hush at hu
  refine lv_iload_n hx hb dX5_hush_0 rfl (lv_at hl 1 rfl) ?_
  refine lv_i2l (v := (Int32.toInt64 x0)) hx hb dX5_hush_1 rfl ?_
  refine lv_lconst (v := 0) hx hb dX5_hush_2 (by decide) ?_
  refine lv_ldc2 (v := 9) hx hb hown w1 dX5_hush_3 ?_
  obtain ⟨r1, er1, hu⟩ := lxb_o hu
  refine hg_ci (va_runS (As := [.long (Int32.toInt64 x0), .long 0, .long 9]) (rest := []) ⟨hx, hb, hml, hown, hts⟩ (c_X5_in l dC dI cI cZ cM _ (Int32.toInt64 x0) 0 9 r1 er1) (va_cwS 3 hts gX5_hush_X5_in rfl rfl rfl (by decide +kernel) ⟨Nat.le_of_ble_eq_true rfl, Nat.le_of_ble_eq_true rfl⟩) (hgPreS hP hD hK hN [] rfl rfl) rfl rfl hl.1 rfl (lv_room (Nat.le_of_ble_eq_true rfl)) dX5_hush_6 ⟨Nat.zero_le _, Nat.zero_le _⟩) hP hD hS hA (wr := [(o_h, .inr (5, [.int o_players, .int o_bars, .ref o_price, .ref o_breath, .ref o_kind, .ref o_looks, .ref o_noise, .ref o_repeat, .ref o_now, .ref o_readPlayer, .ref o_readBar, .int o_readPlayers, .int o_readBars, .ref o_text, .int o_length, .int o_at, .int o_faultAt, .int o_acts, .int o_next, .ref o_row, .int o_heard, .ref o_heardOf, .ref o_heardBars, .ref o_heardPlays, .int o_hushWho, .int o_hushSum, .long o_seed, .ref o_isKept, .ref o_kept])), (o_now, .inl (cI, 32, .inl o_now_v)), (o_price, .inl (cI, 6, .inl o_price_v)), (o_noise, .inl (cI, 8, .inl o_noise_v)), (o_kind, .inl (cI, 6, .inl o_kind_v)), (o_looks, .inl (cI, 6, .inl o_looks_v)), (o_repeat, .inl (cI, 8, .inl o_repeat_v))]) (wf := [(o_h, .inr (5, [.int o_players, .int o_bars, .ref o_price, .ref o_breath, .ref o_kind, .ref o_looks, .ref o_noise, .ref o_repeat, .ref o_now, .ref o_readPlayer, .ref o_readBar, .int o_readPlayers, .int o_readBars, .ref o_text, .int o_length, .int o_at, .int o_faultAt, .int o_acts, .int o_next, .ref o_row, .int o_heard, .ref o_heardOf, .ref o_heardBars, .ref o_heardPlays, .int o_hushWho, .int o_hushSum, .long o_seed, .ref o_isKept, .ref o_kept])), (o_now, .inl (cI, 32, .inl o_now_v)), (o_price, .inl (cI, 6, .inl o_price_v)), (o_noise, .inl (cI, 8, .inl o_noise_v)), (o_kind, .inl (cI, 6, .inl o_kind_v)), (o_looks, .inl (cI, 6, .inl o_looks_v)), (o_repeat, .inl (cI, 8, .inl o_repeat_v))]) [] [0, 1, 2, 3, 4, 5, 6] [0, 1, 2, 3, 4, 5, 6] rfl rfl rfl (by decide) rfl rfl (fun H locs hP hD hS => ?_)
  refine lv_if_eq (tgt := 22) hx hb dX5_hush_9 (by decide) (fun c_9 => ?_) (fun c_9 => ?_)
  · have hu := hu.trans (if_pos c_9)
    refine lv_bipush (v := (-2)) hx hb dX5_hush_22 (by decide) ?_
    subst hu
    exact hg_ri hx hb hr hlk rfl hP hD hS dX5_hush_24
  · have hu := hu.trans (if_neg c_9)
    refine lv_iload_n hx hb dX5_hush_12 rfl (lv_at hl 2 rfl) ?_
    refine lv_i2l (v := (Int32.toInt64 x1)) hx hb dX5_hush_13 rfl ?_
    refine lv_lconst (v := 0) hx hb dX5_hush_14 (by decide) ?_
    refine lv_lconst (v := 1) hx hb dX5_hush_15 (by decide) ?_
    obtain ⟨r2, er2, hu⟩ := lxb_o hu
    refine hg_ci (va_runS (As := [.long (Int32.toInt64 x1), .long 0, .long 1]) (rest := []) ⟨hx, hb, hml, hown, hts⟩ (c_X5_in l dC dI cI cZ cM _ (Int32.toInt64 x1) 0 1 r2 er2) (va_cwS 3 hts gX5_hush_X5_in rfl rfl rfl (by decide +kernel) ⟨Nat.le_of_ble_eq_true rfl, Nat.le_of_ble_eq_true rfl⟩) (hgPreS hP hD hK hN [] rfl rfl) rfl rfl hl.1 rfl (lv_room (Nat.le_of_ble_eq_true rfl)) dX5_hush_16 ⟨Nat.zero_le _, Nat.zero_le _⟩) hP hD hS hA (wr := [(o_h, .inr (5, [.int o_players, .int o_bars, .ref o_price, .ref o_breath, .ref o_kind, .ref o_looks, .ref o_noise, .ref o_repeat, .ref o_now, .ref o_readPlayer, .ref o_readBar, .int o_readPlayers, .int o_readBars, .ref o_text, .int o_length, .int o_at, .int o_faultAt, .int o_acts, .int o_next, .ref o_row, .int o_heard, .ref o_heardOf, .ref o_heardBars, .ref o_heardPlays, .int o_hushWho, .int o_hushSum, .long o_seed, .ref o_isKept, .ref o_kept])), (o_now, .inl (cI, 32, .inl o_now_v)), (o_price, .inl (cI, 6, .inl o_price_v)), (o_noise, .inl (cI, 8, .inl o_noise_v)), (o_kind, .inl (cI, 6, .inl o_kind_v)), (o_looks, .inl (cI, 6, .inl o_looks_v)), (o_repeat, .inl (cI, 8, .inl o_repeat_v))]) (wf := [(o_h, .inr (5, [.int o_players, .int o_bars, .ref o_price, .ref o_breath, .ref o_kind, .ref o_looks, .ref o_noise, .ref o_repeat, .ref o_now, .ref o_readPlayer, .ref o_readBar, .int o_readPlayers, .int o_readBars, .ref o_text, .int o_length, .int o_at, .int o_faultAt, .int o_acts, .int o_next, .ref o_row, .int o_heard, .ref o_heardOf, .ref o_heardBars, .ref o_heardPlays, .int o_hushWho, .int o_hushSum, .long o_seed, .ref o_isKept, .ref o_kept])), (o_now, .inl (cI, 32, .inl o_now_v)), (o_price, .inl (cI, 6, .inl o_price_v)), (o_noise, .inl (cI, 8, .inl o_noise_v)), (o_kind, .inl (cI, 6, .inl o_kind_v)), (o_looks, .inl (cI, 6, .inl o_looks_v)), (o_repeat, .inl (cI, 8, .inl o_repeat_v))]) [] [0, 1, 2, 3, 4, 5, 6] [0, 1, 2, 3, 4, 5, 6] rfl rfl rfl (by decide) rfl rfl (fun H locs hP hD hS => ?_)
    refine lv_if_ne (tgt := 25) hx hb dX5_hush_19 (by decide) (fun c_19 => ?_) (fun c_19 => ?_)
    · have hu := hu.trans (if_neg c_19)
      refine lv_aload_n hx hb dX5_hush_25 rfl (lv_at hl 0 rfl) ?_
      refine lv_iload_n hx hb dX5_hush_26 rfl (lv_at hl 1 rfl) ?_
      obtain ⟨r3, er3, hu⟩ := lxb_o hu
      refine hg_ciE (va_runV (As := [.int x0]) (rest := []) ⟨hx, hb, hml, hown, hts⟩ (c_X5_cheapest l dC dI cI cZ cM _ o_h x0 o_players o_bars o_price o_breath o_kind o_looks o_noise o_repeat o_now o_readPlayer o_readBar o_readPlayers o_readBars o_text o_length o_at o_faultAt o_acts o_next o_row o_heard o_heardOf o_heardBars o_heardPlays o_hushWho o_hushSum o_seed o_isKept o_kept o_now_v o_price_v o_noise_v o_kind_v o_looks_v o_repeat_v np enp (by omega) nb enb (by omega) hB r3 er3) (cwV 1 hts gX5_hush_X5_cheapest rfl rfl rfl (by decide +kernel) ⟨Nat.le_of_ble_eq_true rfl, Nat.le_of_ble_eq_true rfl⟩) (hgPreV (C := RX5) (T := TX5) (N := 29) (ci := 5) (q0 := 0) hP hD hK hN [0, 1, 2, 3, 4, 5, 6] rfl rfl rfl rfl) rfl rfl hl.1 rfl (lv_room (Nat.le_of_ble_eq_true rfl)) dX5_hush_27 ⟨Nat.zero_le _, Nat.zero_le _⟩) hP hD hS hA (wr := []) (wf := [(o_h, .inr (5, [.int o_players, .int o_bars, .ref o_price, .ref o_breath, .ref o_kind, .ref o_looks, .ref o_noise, .ref o_repeat, .ref o_now, .ref o_readPlayer, .ref o_readBar, .int o_readPlayers, .int o_readBars, .ref o_text, .int o_length, .int o_at, .int o_faultAt, .int o_acts, .int o_next, .ref o_row, .int o_heard, .ref o_heardOf, .ref o_heardBars, .ref o_heardPlays, .int o_hushWho, .int o_hushSum, .long o_seed, .ref o_isKept, .ref o_kept])), (o_now, .inl (cI, 32, .inl r3.2)), (o_price, .inl (cI, 6, .inl o_price_v)), (o_noise, .inl (cI, 8, .inl o_noise_v)), (o_kind, .inl (cI, 6, .inl o_kind_v)), (o_looks, .inl (cI, 6, .inl o_looks_v)), (o_repeat, .inl (cI, 8, .inl o_repeat_v))]) [0, 1, 2, 3, 4, 5, 6] [] [0, 1, 2, 3, 4, 5, 6] rfl rfl rfl (by decide) rfl rfl (fun hB4 H locs hP hD hS => ?_)
      refine lv_istore_n (lv' := [(3, .int r3.1), (0, .ref o_h), (1, .int x0), (2, .int x1)]) hx hb dX5_hush_30 rfl hl (by decide) rfl (fun ls hl => ?_)
      refine lv_iload_n hx hb dX5_hush_31 rfl (lv_at hl 3 rfl) ?_
      refine lv_if_ne (tgt := 43) hx hb dX5_hush_32 (by decide) (fun c_32 => ?_) (fun c_32 => ?_)
      · have hu := hu.trans (if_neg c_32)
        refine lv_iload_n hx hb dX5_hush_43 rfl (lv_at hl 0 rfl) ?_
        subst hu
        exact hg_ri hx hb hr hlk rfl hP hD hS dX5_hush_44
      · have hu := hu.trans (if_pos c_32)
        refine lv_aload_n hx hb dX5_hush_35 rfl (lv_at hl 1 rfl) ?_
        refine lv_iload_n hx hb dX5_hush_36 rfl (lv_at hl 0 rfl) ?_
        obtain ⟨r5, er5, hu⟩ := lxb_o hu
        refine hg_ci (va_runV (As := [.int r3.1]) (rest := []) ⟨hx, hb, hml, hown, hts⟩ (c_X5_priceOf l dC dI cI cZ cM _ o_h r3.1 o_players o_bars o_price o_breath o_kind o_looks o_noise o_repeat o_now o_readPlayer o_readBar o_readPlayers o_readBars o_text o_length o_at o_faultAt o_acts o_next o_row o_heard o_heardOf o_heardBars o_heardPlays o_hushWho o_hushSum o_seed o_isKept o_kept o_price_v np enp (by omega) nb enb (by omega) r5 er5) (cwV 1 hts gX5_hush_X5_priceOf rfl rfl rfl (by decide +kernel) ⟨Nat.le_of_ble_eq_true rfl, Nat.le_of_ble_eq_true rfl⟩) (hgPreV (C := RX5) (T := TX5) (N := 29) (ci := 5) (q0 := 0) hP hD hK hN [0, 2] rfl rfl rfl rfl) rfl rfl hl.1 rfl (lv_room (Nat.le_of_ble_eq_true rfl)) dX5_hush_37 ⟨Nat.zero_le _, Nat.zero_le _⟩) hP hD hS hA (wr := [(o_now, .inl (cI, 32, .inl r3.2)), (o_noise, .inl (cI, 8, .inl o_noise_v)), (o_kind, .inl (cI, 6, .inl o_kind_v)), (o_looks, .inl (cI, 6, .inl o_looks_v)), (o_repeat, .inl (cI, 8, .inl o_repeat_v))]) (wf := [(o_h, .inr (5, [.int o_players, .int o_bars, .ref o_price, .ref o_breath, .ref o_kind, .ref o_looks, .ref o_noise, .ref o_repeat, .ref o_now, .ref o_readPlayer, .ref o_readBar, .int o_readPlayers, .int o_readBars, .ref o_text, .int o_length, .int o_at, .int o_faultAt, .int o_acts, .int o_next, .ref o_row, .int o_heard, .ref o_heardOf, .ref o_heardBars, .ref o_heardPlays, .int o_hushWho, .int o_hushSum, .long o_seed, .ref o_isKept, .ref o_kept])), (o_now, .inl (cI, 32, .inl r3.2)), (o_price, .inl (cI, 6, .inl o_price_v)), (o_noise, .inl (cI, 8, .inl o_noise_v)), (o_kind, .inl (cI, 6, .inl o_kind_v)), (o_looks, .inl (cI, 6, .inl o_looks_v)), (o_repeat, .inl (cI, 8, .inl o_repeat_v))]) [0, 2] [1, 3, 4, 5, 6] [5, 0, 6, 1, 2, 3, 4] rfl rfl rfl (by decide) rfl rfl (fun H locs hP hD hS => ?_)
        refine lv_goto (tgt := 44) hx hb dX5_hush_40 (by decide) ?_
        subst hu
        exact hg_ri hx hb hr hlk rfl hP hD hS dX5_hush_44
    · have hu := hu.trans (if_pos c_19)
      refine lv_bipush (v := (-2)) hx hb dX5_hush_22 (by decide) ?_
      subst hu
      exact hg_ri hx hb hr hlk rfl hP hD hS dX5_hush_24

set_option maxHeartbeats 4000000 in
set_option maxRecDepth 100000 in
theorem c_X5_loud (l : Launch) (dC : Nat → ClassId) (dI : Nat → Nat → Nat) (cI cZ cM : ClassId) (sz : Nat) (o_h : Nat) (x0 : Int32) (x1 : Int32) (o_players : Int32) (o_bars : Int32) (o_price : Nat) (o_breath : Nat) (o_kind : Nat) (o_looks : Nat) (o_noise : Nat) (o_repeat : Nat) (o_now : Nat) (o_readPlayer : Nat) (o_readBar : Nat) (o_readPlayers : Int32) (o_readBars : Int32) (o_text : Nat) (o_length : Int32) (o_at : Int32) (o_faultAt : Int32) (o_acts : Int32) (o_next : Int32) (o_row : Nat) (o_heard : Int32) (o_heardOf : Nat) (o_heardBars : Nat) (o_heardPlays : Nat) (o_hushWho : Int32) (o_hushSum : Int32) (o_seed : Int64) (o_isKept : Nat) (o_kept : Nat) (o_now_v : Nat → Int32) (o_noise_v : Nat → Int32) (o_kind_v : Nat → Int32) (o_looks_v : Nat → Int32) (o_repeat_v : Nat → Int32) (o_breath_v : Nat → Int32) (np : Nat) (enp : o_players = nI np) (hnp : np ≤ 6) (nb : Nat) (enb : o_bars = nI nb) (hnb : nb ≤ 8) (hB : mB o_now_v) (u : Int32 × (Nat → Int32)) (hu : u = f_X5_loud x0 x1 o_players o_bars o_now_v o_noise_v o_kind_v o_looks_v o_repeat_v o_breath_v) : Met l yX5_loud wsX5_loud { frames := 6, cells := 0, slots := 0, locals := 140 } (hgPc [.ref o_h, .int x0, .int x1] (dC, dI) cI cZ cM [(o_h, .inr (5, [.int o_players, .int o_bars, .ref o_price, .ref o_breath, .ref o_kind, .ref o_looks, .ref o_noise, .ref o_repeat, .ref o_now, .ref o_readPlayer, .ref o_readBar, .int o_readPlayers, .int o_readBars, .ref o_text, .int o_length, .int o_at, .int o_faultAt, .int o_acts, .int o_next, .ref o_row, .int o_heard, .ref o_heardOf, .ref o_heardBars, .ref o_heardPlays, .int o_hushWho, .int o_hushSum, .long o_seed, .ref o_isKept, .ref o_kept])), (o_now, .inl (cI, 32, .inl o_now_v)), (o_noise, .inl (cI, 8, .inl o_noise_v)), (o_kind, .inl (cI, 6, .inl o_kind_v)), (o_looks, .inl (cI, 6, .inl o_looks_v)), (o_repeat, .inl (cI, 8, .inl o_repeat_v)), (o_breath, .inl (cI, 6, .inl o_breath_v))] sz) (hgQi (dC, dI) u.1 [(o_h, .inr (5, [.int o_players, .int o_bars, .ref o_price, .ref o_breath, .ref o_kind, .ref o_looks, .ref o_noise, .ref o_repeat, .ref o_now, .ref o_readPlayer, .ref o_readBar, .int o_readPlayers, .int o_readBars, .ref o_text, .int o_length, .int o_at, .int o_faultAt, .int o_acts, .int o_next, .ref o_row, .int o_heard, .ref o_heardOf, .ref o_heardBars, .ref o_heardPlays, .int o_hushWho, .int o_hushSum, .long o_seed, .ref o_isKept, .ref o_kept])), (o_now, .inl (cI, 32, .inl u.2)), (o_noise, .inl (cI, 8, .inl o_noise_v)), (o_kind, .inl (cI, 6, .inl o_kind_v)), (o_looks, .inl (cI, 6, .inl o_looks_v)), (o_repeat, .inl (cI, 8, .inl o_repeat_v)), (o_breath, .inl (cI, 6, .inl o_breath_v))] (va_A [(o_h, .inr (5, [.int o_players, .int o_bars, .ref o_price, .ref o_breath, .ref o_kind, .ref o_looks, .ref o_noise, .ref o_repeat, .ref o_now, .ref o_readPlayer, .ref o_readBar, .int o_readPlayers, .int o_readBars, .ref o_text, .int o_length, .int o_at, .int o_faultAt, .int o_acts, .int o_next, .ref o_row, .int o_heard, .ref o_heardOf, .ref o_heardBars, .ref o_heardPlays, .int o_hushWho, .int o_hushSum, .long o_seed, .ref o_isKept, .ref o_kept])), (o_now, .inl (cI, 32, .inl o_now_v)), (o_noise, .inl (cI, 8, .inl o_noise_v)), (o_kind, .inl (cI, 6, .inl o_kind_v)), (o_looks, .inl (cI, 6, .inl o_looks_v)), (o_repeat, .inl (cI, 8, .inl o_repeat_v)), (o_breath, .inl (cI, 6, .inl o_breath_v))] sz)) 0 0 (va_A [(o_h, .inr (5, [.int o_players, .int o_bars, .ref o_price, .ref o_breath, .ref o_kind, .ref o_looks, .ref o_noise, .ref o_repeat, .ref o_now, .ref o_readPlayer, .ref o_readBar, .int o_readPlayers, .int o_readBars, .ref o_text, .int o_length, .int o_at, .int o_faultAt, .int o_acts, .int o_next, .ref o_row, .int o_heard, .ref o_heardOf, .ref o_heardBars, .ref o_heardPlays, .int o_hushWho, .int o_hushSum, .long o_seed, .ref o_isKept, .ref o_kept])), (o_now, .inl (cI, 32, .inl o_now_v)), (o_noise, .inl (cI, 8, .inl o_noise_v)), (o_kind, .inl (cI, 6, .inl o_kind_v)), (o_looks, .inl (cI, 6, .inl o_looks_v)), (o_repeat, .inl (cI, 8, .inl o_repeat_v)), (o_breath, .inl (cI, 6, .inl o_breath_v))] sz) := by
  refine hg_ofW (cc := cX5_loud) (maxL := 7) (ret := (some .int)) (own := RX5) (fun A => hgQi (dC, dI) u.1 [(o_h, .inr (5, [.int o_players, .int o_bars, .ref o_price, .ref o_breath, .ref o_kind, .ref o_looks, .ref o_noise, .ref o_repeat, .ref o_now, .ref o_readPlayer, .ref o_readBar, .int o_readPlayers, .int o_readBars, .ref o_text, .int o_length, .int o_at, .int o_faultAt, .int o_acts, .int o_next, .ref o_row, .int o_heard, .ref o_heardOf, .ref o_heardBars, .ref o_heardPlays, .int o_hushWho, .int o_hushSum, .long o_seed, .ref o_isKept, .ref o_kept])), (o_now, .inl (cI, 32, .inl u.2)), (o_noise, .inl (cI, 8, .inl o_noise_v)), (o_kind, .inl (cI, 6, .inl o_kind_v)), (o_looks, .inl (cI, 6, .inl o_looks_v)), (o_repeat, .inl (cI, 8, .inl o_repeat_v)), (o_breath, .inl (cI, 6, .inl o_breath_v))] A) rfl (by decide) rfl (Nat.le_of_ble_eq_true rfl) ?_
  intro p e s m below meth c ls A hsz hx hb hr hml hown hts hlk hnm hK hN hA hP hD hS hl
  subst hsz
  have w1 := hts (.constantLong RX5 185 (12)) (List.mem_of_getElem? (i := 1) rfl)
  have hl : lv_has ls 7 [(0, .ref o_h), (1, .int x0), (2, .int x1)] := hl
  unfold f_X5_loud at hu
  refine lv_iload_n hx hb dX5_loud_0 rfl (lv_at hl 1 rfl) ?_
  refine lv_i2l (v := (Int32.toInt64 x0)) hx hb dX5_loud_1 rfl ?_
  refine lv_lconst (v := 1) hx hb dX5_loud_2 (by decide) ?_
  refine lv_ldc2 (v := 12) hx hb hown w1 dX5_loud_3 ?_
  obtain ⟨r1, er1, hu⟩ := lxb_o hu
  refine hg_ci (va_runS (As := [.long (Int32.toInt64 x0), .long 1, .long 12]) (rest := []) ⟨hx, hb, hml, hown, hts⟩ (c_X5_in l dC dI cI cZ cM _ (Int32.toInt64 x0) 1 12 r1 er1) (va_cwS 3 hts gX5_loud_X5_in rfl rfl rfl (by decide +kernel) ⟨Nat.le_of_ble_eq_true rfl, Nat.le_of_ble_eq_true rfl⟩) (hgPreS hP hD hK hN [] rfl rfl) rfl rfl hl.1 rfl (lv_room (Nat.le_of_ble_eq_true rfl)) dX5_loud_6 ⟨Nat.zero_le _, Nat.zero_le _⟩) hP hD hS hA (wr := [(o_h, .inr (5, [.int o_players, .int o_bars, .ref o_price, .ref o_breath, .ref o_kind, .ref o_looks, .ref o_noise, .ref o_repeat, .ref o_now, .ref o_readPlayer, .ref o_readBar, .int o_readPlayers, .int o_readBars, .ref o_text, .int o_length, .int o_at, .int o_faultAt, .int o_acts, .int o_next, .ref o_row, .int o_heard, .ref o_heardOf, .ref o_heardBars, .ref o_heardPlays, .int o_hushWho, .int o_hushSum, .long o_seed, .ref o_isKept, .ref o_kept])), (o_now, .inl (cI, 32, .inl o_now_v)), (o_noise, .inl (cI, 8, .inl o_noise_v)), (o_kind, .inl (cI, 6, .inl o_kind_v)), (o_looks, .inl (cI, 6, .inl o_looks_v)), (o_repeat, .inl (cI, 8, .inl o_repeat_v)), (o_breath, .inl (cI, 6, .inl o_breath_v))]) (wf := [(o_h, .inr (5, [.int o_players, .int o_bars, .ref o_price, .ref o_breath, .ref o_kind, .ref o_looks, .ref o_noise, .ref o_repeat, .ref o_now, .ref o_readPlayer, .ref o_readBar, .int o_readPlayers, .int o_readBars, .ref o_text, .int o_length, .int o_at, .int o_faultAt, .int o_acts, .int o_next, .ref o_row, .int o_heard, .ref o_heardOf, .ref o_heardBars, .ref o_heardPlays, .int o_hushWho, .int o_hushSum, .long o_seed, .ref o_isKept, .ref o_kept])), (o_now, .inl (cI, 32, .inl o_now_v)), (o_noise, .inl (cI, 8, .inl o_noise_v)), (o_kind, .inl (cI, 6, .inl o_kind_v)), (o_looks, .inl (cI, 6, .inl o_looks_v)), (o_repeat, .inl (cI, 8, .inl o_repeat_v)), (o_breath, .inl (cI, 6, .inl o_breath_v))]) [] [0, 1, 2, 3, 4, 5, 6] [0, 1, 2, 3, 4, 5, 6] rfl rfl rfl (by decide) rfl rfl (fun H locs hP hD hS => ?_)
  refine lv_if_eq (tgt := 22) hx hb dX5_loud_9 (by decide) (fun c_9 => ?_) (fun c_9 => ?_)
  · have hu := hu.trans (if_pos c_9)
    refine lv_bipush (v := (-2)) hx hb dX5_loud_22 (by decide) ?_
    subst hu
    exact hg_ri hx hb hr hlk rfl hP hD hS dX5_loud_24
  · have hu := hu.trans (if_neg c_9)
    refine lv_iload_n hx hb dX5_loud_12 rfl (lv_at hl 2 rfl) ?_
    refine lv_i2l (v := (Int32.toInt64 x1)) hx hb dX5_loud_13 rfl ?_
    refine lv_lconst (v := 0) hx hb dX5_loud_14 (by decide) ?_
    refine lv_lconst (v := 1) hx hb dX5_loud_15 (by decide) ?_
    obtain ⟨r2, er2, hu⟩ := lxb_o hu
    refine hg_ci (va_runS (As := [.long (Int32.toInt64 x1), .long 0, .long 1]) (rest := []) ⟨hx, hb, hml, hown, hts⟩ (c_X5_in l dC dI cI cZ cM _ (Int32.toInt64 x1) 0 1 r2 er2) (va_cwS 3 hts gX5_loud_X5_in rfl rfl rfl (by decide +kernel) ⟨Nat.le_of_ble_eq_true rfl, Nat.le_of_ble_eq_true rfl⟩) (hgPreS hP hD hK hN [] rfl rfl) rfl rfl hl.1 rfl (lv_room (Nat.le_of_ble_eq_true rfl)) dX5_loud_16 ⟨Nat.zero_le _, Nat.zero_le _⟩) hP hD hS hA (wr := [(o_h, .inr (5, [.int o_players, .int o_bars, .ref o_price, .ref o_breath, .ref o_kind, .ref o_looks, .ref o_noise, .ref o_repeat, .ref o_now, .ref o_readPlayer, .ref o_readBar, .int o_readPlayers, .int o_readBars, .ref o_text, .int o_length, .int o_at, .int o_faultAt, .int o_acts, .int o_next, .ref o_row, .int o_heard, .ref o_heardOf, .ref o_heardBars, .ref o_heardPlays, .int o_hushWho, .int o_hushSum, .long o_seed, .ref o_isKept, .ref o_kept])), (o_now, .inl (cI, 32, .inl o_now_v)), (o_noise, .inl (cI, 8, .inl o_noise_v)), (o_kind, .inl (cI, 6, .inl o_kind_v)), (o_looks, .inl (cI, 6, .inl o_looks_v)), (o_repeat, .inl (cI, 8, .inl o_repeat_v)), (o_breath, .inl (cI, 6, .inl o_breath_v))]) (wf := [(o_h, .inr (5, [.int o_players, .int o_bars, .ref o_price, .ref o_breath, .ref o_kind, .ref o_looks, .ref o_noise, .ref o_repeat, .ref o_now, .ref o_readPlayer, .ref o_readBar, .int o_readPlayers, .int o_readBars, .ref o_text, .int o_length, .int o_at, .int o_faultAt, .int o_acts, .int o_next, .ref o_row, .int o_heard, .ref o_heardOf, .ref o_heardBars, .ref o_heardPlays, .int o_hushWho, .int o_hushSum, .long o_seed, .ref o_isKept, .ref o_kept])), (o_now, .inl (cI, 32, .inl o_now_v)), (o_noise, .inl (cI, 8, .inl o_noise_v)), (o_kind, .inl (cI, 6, .inl o_kind_v)), (o_looks, .inl (cI, 6, .inl o_looks_v)), (o_repeat, .inl (cI, 8, .inl o_repeat_v)), (o_breath, .inl (cI, 6, .inl o_breath_v))]) [] [0, 1, 2, 3, 4, 5, 6] [0, 1, 2, 3, 4, 5, 6] rfl rfl rfl (by decide) rfl rfl (fun H locs hP hD hS => ?_)
    refine lv_if_ne (tgt := 25) hx hb dX5_loud_19 (by decide) (fun c_19 => ?_) (fun c_19 => ?_)
    · have hu := hu.trans (if_neg c_19)
      refine lv_bipush (v := (-9)) hx hb dX5_loud_25 (by decide) ?_
      refine lv_istore_n (lv' := [(3, .int (-9)), (0, .ref o_h), (1, .int x0), (2, .int x1)]) hx hb dX5_loud_27 rfl hl (by decide) rfl (fun ls hl => ?_)
      refine lv_bipush (v := (-9)) hx hb dX5_loud_28 (by decide) ?_
      refine lv_istore (lv' := [(4, .int (-9)), (3, .int (-9)), (0, .ref o_h), (1, .int x0), (2, .int x1)]) hx hb dX5_loud_30 hl (by decide) rfl (fun ls hl => ?_)
      refine lv_iconst (v := 0) hx hb dX5_loud_32 (by decide) ?_
      refine lv_istore (lv' := [(5, .int 0), (4, .int (-9)), (3, .int (-9)), (0, .ref o_h), (1, .int x0), (2, .int x1)]) hx hb dX5_loud_33 hl (by decide) rfl (fun ls hl => ?_)
      obtain ⟨r28, er28, hu⟩ := lxb_o hu
      refine hg_loopFJ (T := Int32 × Int32 × (Nat → Int32)) (N := (itn1 0 6)) (fun v35 => (mB v35.2.2)) (fun v35 => [(o_h, .inr (5, [.int o_players, .int o_bars, .ref o_price, .ref o_breath, .ref o_kind, .ref o_looks, .ref o_noise, .ref o_repeat, .ref o_now, .ref o_readPlayer, .ref o_readBar, .int o_readPlayers, .int o_readBars, .ref o_text, .int o_length, .int o_at, .int o_faultAt, .int o_acts, .int o_next, .ref o_row, .int o_heard, .ref o_heardOf, .ref o_heardBars, .ref o_heardPlays, .int o_hushWho, .int o_hushSum, .long o_seed, .ref o_isKept, .ref o_kept])), (o_now, .inl (cI, 32, .inl v35.2.2)), (o_noise, .inl (cI, 8, .inl o_noise_v)), (o_kind, .inl (cI, 6, .inl o_kind_v)), (o_looks, .inl (cI, 6, .inl o_looks_v)), (o_repeat, .inl (cI, 8, .inl o_repeat_v)), (o_breath, .inl (cI, 6, .inl o_breath_v))]) (fun k35 v35 => [(0, .ref o_h), (1, .int x0), (2, .int x1), (3, .int v35.1), (4, .int v35.2.1), (5, .int (nI k35))]) (fun k35 => l_X5_loud_35 x0 o_players o_bars o_noise_v o_kind_v o_looks_v o_repeat_v o_breath_v ((-9), (-9), o_now_v) k35) hB ?_ ?_ hP hD hS (lv_sub hl [3, 4, 5, 2, 1, 0] rfl)
      · intro v35 hJ35 hv H locs ls hP hD hS hl
        obtain rfl : r28 = v35 := er28.trans hv.symm
        have hP : va_P (dC, dI) vwCl [(o_h, .inr (5, [.int o_players, .int o_bars, .ref o_price, .ref o_breath, .ref o_kind, .ref o_looks, .ref o_noise, .ref o_repeat, .ref o_now, .ref o_readPlayer, .ref o_readBar, .int o_readPlayers, .int o_readBars, .ref o_text, .int o_length, .int o_at, .int o_faultAt, .int o_acts, .int o_next, .ref o_row, .int o_heard, .ref o_heardOf, .ref o_heardBars, .ref o_heardPlays, .int o_hushWho, .int o_hushSum, .long o_seed, .ref o_isKept, .ref o_kept])), (o_now, .inl (cI, 32, .inl r28.2.2)), (o_noise, .inl (cI, 8, .inl o_noise_v)), (o_kind, .inl (cI, 6, .inl o_kind_v)), (o_looks, .inl (cI, 6, .inl o_looks_v)), (o_repeat, .inl (cI, 8, .inl o_repeat_v)), (o_breath, .inl (cI, 6, .inl o_breath_v))] H := hP
        have hD : va_D A [(o_h, .inr (5, [.int o_players, .int o_bars, .ref o_price, .ref o_breath, .ref o_kind, .ref o_looks, .ref o_noise, .ref o_repeat, .ref o_now, .ref o_readPlayer, .ref o_readBar, .int o_readPlayers, .int o_readBars, .ref o_text, .int o_length, .int o_at, .int o_faultAt, .int o_acts, .int o_next, .ref o_row, .int o_heard, .ref o_heardOf, .ref o_heardBars, .ref o_heardPlays, .int o_hushWho, .int o_hushSum, .long o_seed, .ref o_isKept, .ref o_kept])), (o_now, .inl (cI, 32, .inl r28.2.2)), (o_noise, .inl (cI, 8, .inl o_noise_v)), (o_kind, .inl (cI, 6, .inl o_kind_v)), (o_looks, .inl (cI, 6, .inl o_looks_v)), (o_repeat, .inl (cI, 8, .inl o_repeat_v)), (o_breath, .inl (cI, 6, .inl o_breath_v))] := hD
        have hl : lv_has ls 7 [(0, .ref o_h), (1, .int x0), (2, .int x1), (3, .int r28.1), (4, .int r28.2.1), (5, .int (nI (itn1 0 6)))] := hl
        refine lv_iload hx hb dX5_loud_35 (lv_at hl 5 rfl) ?_
        refine lv_bipush (v := 6) hx hb dX5_loud_37 (by decide) ?_
        refine lv_icmp_gt (tgt := 120) hx hb dX5_loud_39 (by decide) (fun c_39 => ?_) (fun c_39 => absurd (hg_p00 (by decide)) c_39)
        refine lv_iload_n hx hb dX5_loud_120 rfl (lv_at hl 2 rfl) ?_
        refine lv_if_ne (tgt := 128) hx hb dX5_loud_121 (by decide) (fun c_121 => ?_) (fun c_121 => ?_)
        · have hu := hu.trans (if_neg c_121)
          refine lv_iload hx hb dX5_loud_128 (lv_at hl 4 rfl) ?_
          subst hu
          exact hg_ri hx hb hr hlk rfl hP hD hS dX5_loud_130
        · have hu := hu.trans (if_pos c_121)
          refine lv_iload_n hx hb dX5_loud_124 rfl (lv_at hl 3 rfl) ?_
          refine lv_goto (tgt := 130) hx hb dX5_loud_125 (by decide) ?_
          subst hu
          exact hg_ri hx hb hr hlk rfl hP hD hS dX5_loud_130
      · intro k35 hk v35 hJ35 hv w hw ih H locs ls hP hD hS hl
        have hw : w = b_X5_loud_35 x0 o_players o_bars o_noise_v o_kind_v o_looks_v o_repeat_v o_breath_v k35 v35 := by rw [hw, hv]; rfl
        unfold b_X5_loud_35 at hw
        have hkb : k35 < 7 := Nat.lt_of_lt_of_le hk (by decide)
        have hP : va_P (dC, dI) vwCl [(o_h, .inr (5, [.int o_players, .int o_bars, .ref o_price, .ref o_breath, .ref o_kind, .ref o_looks, .ref o_noise, .ref o_repeat, .ref o_now, .ref o_readPlayer, .ref o_readBar, .int o_readPlayers, .int o_readBars, .ref o_text, .int o_length, .int o_at, .int o_faultAt, .int o_acts, .int o_next, .ref o_row, .int o_heard, .ref o_heardOf, .ref o_heardBars, .ref o_heardPlays, .int o_hushWho, .int o_hushSum, .long o_seed, .ref o_isKept, .ref o_kept])), (o_now, .inl (cI, 32, .inl v35.2.2)), (o_noise, .inl (cI, 8, .inl o_noise_v)), (o_kind, .inl (cI, 6, .inl o_kind_v)), (o_looks, .inl (cI, 6, .inl o_looks_v)), (o_repeat, .inl (cI, 8, .inl o_repeat_v)), (o_breath, .inl (cI, 6, .inl o_breath_v))] H := hP
        have hD : va_D A [(o_h, .inr (5, [.int o_players, .int o_bars, .ref o_price, .ref o_breath, .ref o_kind, .ref o_looks, .ref o_noise, .ref o_repeat, .ref o_now, .ref o_readPlayer, .ref o_readBar, .int o_readPlayers, .int o_readBars, .ref o_text, .int o_length, .int o_at, .int o_faultAt, .int o_acts, .int o_next, .ref o_row, .int o_heard, .ref o_heardOf, .ref o_heardBars, .ref o_heardPlays, .int o_hushWho, .int o_hushSum, .long o_seed, .ref o_isKept, .ref o_kept])), (o_now, .inl (cI, 32, .inl v35.2.2)), (o_noise, .inl (cI, 8, .inl o_noise_v)), (o_kind, .inl (cI, 6, .inl o_kind_v)), (o_looks, .inl (cI, 6, .inl o_looks_v)), (o_repeat, .inl (cI, 8, .inl o_repeat_v)), (o_breath, .inl (cI, 6, .inl o_breath_v))] := hD
        have hl : lv_has ls 7 [(0, .ref o_h), (1, .int x0), (2, .int x1), (3, .int v35.1), (4, .int v35.2.1), (5, .int (nI k35))] := hl
        refine lv_iload hx hb dX5_loud_35 (lv_at hl 5 rfl) ?_
        refine lv_bipush (v := 6) hx hb dX5_loud_37 (by decide) ?_
        refine lv_icmp_gt (tgt := 120) hx hb dX5_loud_39 (by decide) (fun c_39 => absurd c_39 (hg_p01 hk)) (fun c_39 => ?_)
        refine lv_iload hx hb dX5_loud_42 (lv_at hl 5 rfl) ?_
        refine lv_bipush (v := 6) hx hb dX5_loud_44 (by decide) ?_
        refine lv_icmp_eq (tgt := 59) hx hb dX5_loud_46 (by decide) (fun c_46 => ?_) (fun c_46 => ?_)
        · have hw := hw.trans (if_pos c_46)
          refine lv_aload_n hx hb dX5_loud_59 rfl (lv_at hl 0 rfl) ?_
          obtain ⟨r3, er3, hw⟩ := lxb_o hw
          refine hg_cvE (va_runV (As := []) (rest := []) ⟨hx, hb, hml, hown, hts⟩ (c_X5_layTrial l dC dI cI cZ cM _ o_h o_players o_bars o_price o_breath o_kind o_looks o_noise o_repeat o_now o_readPlayer o_readBar o_readPlayers o_readBars o_text o_length o_at o_faultAt o_acts o_next o_row o_heard o_heardOf o_heardBars o_heardPlays o_hushWho o_hushSum o_seed o_isKept o_kept v35.2.2 np enp (by omega) nb enb (by omega) hJ35 r3 er3) (cwV 0 hts gX5_loud_X5_layTrial rfl rfl rfl (by decide +kernel) ⟨Nat.le_of_ble_eq_true rfl, Nat.le_of_ble_eq_true rfl⟩) (hgPreV (C := RX5) (T := TX5) (N := 29) (ci := 5) (q0 := 0) hP hD hK hN [0, 1] rfl rfl rfl rfl) rfl rfl hl.1 rfl (lv_room (Nat.le_of_ble_eq_true rfl)) dX5_loud_60 ⟨Nat.zero_le _, Nat.zero_le _⟩) hP hD hS hA (wr := [(o_noise, .inl (cI, 8, .inl o_noise_v)), (o_kind, .inl (cI, 6, .inl o_kind_v)), (o_looks, .inl (cI, 6, .inl o_looks_v)), (o_repeat, .inl (cI, 8, .inl o_repeat_v)), (o_breath, .inl (cI, 6, .inl o_breath_v))]) (wf := [(o_h, .inr (5, [.int o_players, .int o_bars, .ref o_price, .ref o_breath, .ref o_kind, .ref o_looks, .ref o_noise, .ref o_repeat, .ref o_now, .ref o_readPlayer, .ref o_readBar, .int o_readPlayers, .int o_readBars, .ref o_text, .int o_length, .int o_at, .int o_faultAt, .int o_acts, .int o_next, .ref o_row, .int o_heard, .ref o_heardOf, .ref o_heardBars, .ref o_heardPlays, .int o_hushWho, .int o_hushSum, .long o_seed, .ref o_isKept, .ref o_kept])), (o_now, .inl (cI, 32, .inl r3)), (o_noise, .inl (cI, 8, .inl o_noise_v)), (o_kind, .inl (cI, 6, .inl o_kind_v)), (o_looks, .inl (cI, 6, .inl o_looks_v)), (o_repeat, .inl (cI, 8, .inl o_repeat_v)), (o_breath, .inl (cI, 6, .inl o_breath_v))]) [0, 1] [2, 3, 4, 5, 6] [5, 6, 0, 1, 2, 3, 4] rfl rfl rfl (by decide) rfl rfl (fun hB4 H locs hP hD hS => ?_)
          refine lv_iload hx hb dX5_loud_63 (lv_at hl 5 rfl) ?_
          refine lv_bipush (v := 6) hx hb dX5_loud_65 (by decide) ?_
          refine lv_icmp_ge (tgt := 77) hx hb dX5_loud_67 (by decide) (fun c_67 => ?_) (fun c_67 => ?_)
          · have hw := hw.trans (if_pos c_67)
            refine lv_aload_n hx hb dX5_loud_77 rfl (lv_at hl 0 rfl) ?_
            refine lv_iload_n hx hb dX5_loud_78 rfl (lv_at hl 1 rfl) ?_
            obtain ⟨r5, er5, hw⟩ := lxb_o hw
            refine hg_ciE (va_runV (As := [.int x0]) (rest := []) ⟨hx, hb, hml, hown, hts⟩ (c_X5_goOn l dC dI cI cZ cM _ o_h x0 o_players o_bars o_price o_breath o_kind o_looks o_noise o_repeat o_now o_readPlayer o_readBar o_readPlayers o_readBars o_text o_length o_at o_faultAt o_acts o_next o_row o_heard o_heardOf o_heardBars o_heardPlays o_hushWho o_hushSum o_seed o_isKept o_kept r3 o_noise_v o_kind_v o_looks_v o_repeat_v np enp (by omega) nb enb (by omega) hB4 r5 er5) (cwV 1 hts gX5_loud_X5_goOn rfl rfl rfl (by decide +kernel) ⟨Nat.le_of_ble_eq_true rfl, Nat.le_of_ble_eq_true rfl⟩) (hgPreV (C := RX5) (T := TX5) (N := 29) (ci := 5) (q0 := 0) hP hD hK hN [0, 1, 2, 3, 4, 5] rfl rfl rfl rfl) rfl rfl hl.1 rfl (lv_room (Nat.le_of_ble_eq_true rfl)) dX5_loud_79 ⟨Nat.zero_le _, Nat.zero_le _⟩) hP hD hS hA (wr := [(o_breath, .inl (cI, 6, .inl o_breath_v))]) (wf := [(o_h, .inr (5, [.int o_players, .int o_bars, .ref o_price, .ref o_breath, .ref o_kind, .ref o_looks, .ref o_noise, .ref o_repeat, .ref o_now, .ref o_readPlayer, .ref o_readBar, .int o_readPlayers, .int o_readBars, .ref o_text, .int o_length, .int o_at, .int o_faultAt, .int o_acts, .int o_next, .ref o_row, .int o_heard, .ref o_heardOf, .ref o_heardBars, .ref o_heardPlays, .int o_hushWho, .int o_hushSum, .long o_seed, .ref o_isKept, .ref o_kept])), (o_now, .inl (cI, 32, .inl r5.2)), (o_noise, .inl (cI, 8, .inl o_noise_v)), (o_kind, .inl (cI, 6, .inl o_kind_v)), (o_looks, .inl (cI, 6, .inl o_looks_v)), (o_repeat, .inl (cI, 8, .inl o_repeat_v)), (o_breath, .inl (cI, 6, .inl o_breath_v))]) [0, 1, 2, 3, 4, 5] [6] [1, 2, 3, 4, 5, 6, 0] rfl rfl rfl (by decide) rfl rfl (fun hB6 H locs hP hD hS => ?_)
            refine lv_istore (lv' := [(6, .int r5.1), (0, .ref o_h), (1, .int x0), (2, .int x1), (3, .int v35.1), (4, .int v35.2.1), (5, .int (nI k35))]) hx hb dX5_loud_82 hl (by decide) rfl (fun ls hl => ?_)
            refine lv_iload hx hb dX5_loud_84 (lv_at hl 0 rfl) ?_
            refine lv_iload hx hb dX5_loud_86 (lv_at hl 5 rfl) ?_
            obtain ⟨z7, ez7, hw⟩ := lxb_o hw
            refine hg_cut (D := (dC, dI)) (A0 := A) (H0 := s.heap) (ws := [(o_h, .inr (5, [.int o_players, .int o_bars, .ref o_price, .ref o_breath, .ref o_kind, .ref o_looks, .ref o_noise, .ref o_repeat, .ref o_now, .ref o_readPlayer, .ref o_readBar, .int o_readPlayers, .int o_readBars, .ref o_text, .int o_length, .int o_at, .int o_faultAt, .int o_acts, .int o_next, .ref o_row, .int o_heard, .ref o_heardOf, .ref o_heardBars, .ref o_heardPlays, .int o_hushWho, .int o_hushSum, .long o_seed, .ref o_isKept, .ref o_kept])), (o_now, .inl (cI, 32, .inl r5.2)), (o_noise, .inl (cI, 8, .inl o_noise_v)), (o_kind, .inl (cI, 6, .inl o_kind_v)), (o_looks, .inl (cI, 6, .inl o_looks_v)), (o_repeat, .inl (cI, 8, .inl o_repeat_v)), (o_breath, .inl (cI, 6, .inl o_breath_v))]) (g := F0 m 97 ls [.int z7]) ?_ (fun hJ => ?_)
            · intro H locs hP hD hS
              refine lv_istore_n (lv' := [(3, .int z7), (6, .int r5.1), (0, .ref o_h), (1, .int x0), (2, .int x1), (4, .int v35.2.1), (5, .int (nI k35))]) hx hb dX5_loud_97 rfl hl (by decide) rfl (fun ls hl => ?_)
              refine lv_iload hx hb dX5_loud_98 (lv_at hl 1 rfl) ?_
              refine lv_iload hx hb dX5_loud_100 (lv_at hl 5 rfl) ?_
              obtain ⟨z8, ez8, hw⟩ := lxb_o hw
              refine hg_cut (D := (dC, dI)) (A0 := A) (H0 := s.heap) (ws := [(o_h, .inr (5, [.int o_players, .int o_bars, .ref o_price, .ref o_breath, .ref o_kind, .ref o_looks, .ref o_noise, .ref o_repeat, .ref o_now, .ref o_readPlayer, .ref o_readBar, .int o_readPlayers, .int o_readBars, .ref o_text, .int o_length, .int o_at, .int o_faultAt, .int o_acts, .int o_next, .ref o_row, .int o_heard, .ref o_heardOf, .ref o_heardBars, .ref o_heardPlays, .int o_hushWho, .int o_hushSum, .long o_seed, .ref o_isKept, .ref o_kept])), (o_now, .inl (cI, 32, .inl r5.2)), (o_noise, .inl (cI, 8, .inl o_noise_v)), (o_kind, .inl (cI, 6, .inl o_kind_v)), (o_looks, .inl (cI, 6, .inl o_looks_v)), (o_repeat, .inl (cI, 8, .inl o_repeat_v)), (o_breath, .inl (cI, 6, .inl o_breath_v))]) (g := F0 m 112 ls [.int z8]) ?_ (fun hJ => ?_)
              · intro H locs hP hD hS
                refine lv_istore (lv' := [(4, .int z8), (3, .int z7), (6, .int r5.1), (0, .ref o_h), (1, .int x0), (2, .int x1), (5, .int (nI k35))]) hx hb dX5_loud_112 hl (by decide) rfl (fun ls hl => ?_)
                refine lv_iinc (v := nI (k35 + 1)) (lv' := [(5, .int (nI (k35 + 1))), (4, .int z8), (3, .int z7), (6, .int r5.1), (0, .ref o_h), (1, .int x0), (2, .int x1)]) hx hb dX5_loud_114 hl (k := 6) rfl (nI_1 k35) (by decide) rfl (fun ls hl => ?_)
                refine lv_goto (tgt := 35) hx hb dX5_loud_117 (by decide) ?_
                subst hw
                exact ih hB6 _ _ _ hP hD hS (lv_sub hl [4, 5, 6, 2, 1, 0] rfl)
              · refine lv_icmp_le (tgt := 110) hx hb dX5_loud_102 (by decide) (fun c_102 => ?_) (fun c_102 => ?_)
                · have ez8 := ez8.trans (if_pos c_102)
                  refine lv_iload hx hb dX5_loud_110 (lv_at hl 5 rfl) ?_
                  subst ez8
                  exact hJ _ _ hP hD hS
                · have ez8 := ez8.trans (if_neg c_102)
                  refine lv_iload hx hb dX5_loud_105 (lv_at hl 1 rfl) ?_
                  refine lv_goto (tgt := 112) hx hb dX5_loud_107 (by decide) ?_
                  subst ez8
                  exact hJ _ _ hP hD hS
            · refine lv_icmp_le (tgt := 96) hx hb dX5_loud_88 (by decide) (fun c_88 => ?_) (fun c_88 => ?_)
              · have ez7 := ez7.trans (if_pos c_88)
                refine lv_iload_n hx hb dX5_loud_96 rfl (lv_at hl 4 rfl) ?_
                subst ez7
                exact hJ _ _ hP hD hS
              · have ez7 := ez7.trans (if_neg c_88)
                refine lv_iload hx hb dX5_loud_91 (lv_at hl 6 rfl) ?_
                refine lv_goto (tgt := 97) hx hb dX5_loud_93 (by decide) ?_
                subst ez7
                exact hJ _ _ hP hD hS
          · have hw := hw.trans (if_neg c_67)
            have hkp : k35 < np := absurd (show (6 : Int32) ≤ nI k35 by rw [c_46]; decide) c_67
            refine lv_aload_n hx hb dX5_loud_70 rfl (lv_at hl 0 rfl) ?_
            refine lv_iconst (v := 1) hx hb dX5_loud_71 (by decide) ?_
            refine lv_iload hx hb dX5_loud_72 (lv_at hl 5 rfl) ?_
            obtain ⟨r9, er9, hw⟩ := lxb_o hw
            refine hg_cvE (va_runV (As := [.int 1, .int (nI k35)]) (rest := []) ⟨hx, hb, hml, hown, hts⟩ (c_X5_restOn l dC dI cI cZ cM _ o_h 1 (nI k35) o_players o_bars o_price o_breath o_kind o_looks o_noise o_repeat o_now o_readPlayer o_readBar o_readPlayers o_readBars o_text o_length o_at o_faultAt o_acts o_next o_row o_heard o_heardOf o_heardBars o_heardPlays o_hushWho o_hushSum o_seed o_isKept o_kept r3 o_breath_v np enp (by omega) nb enb (by omega) 1 (show (1 : Int32) = nI 1 from rfl) (by omega) k35 rfl (by omega) hB4 r9 er9) (cwV 2 hts gX5_loud_X5_restOn rfl rfl rfl (by decide +kernel) ⟨Nat.le_of_ble_eq_true rfl, Nat.le_of_ble_eq_true rfl⟩) (hgPreV (C := RX5) (T := TX5) (N := 29) (ci := 5) (q0 := 0) hP hD hK hN [0, 1, 6] rfl rfl rfl rfl) rfl rfl hl.1 rfl (lv_room (Nat.le_of_ble_eq_true rfl)) dX5_loud_74 ⟨Nat.zero_le _, Nat.zero_le _⟩) hP hD hS hA (wr := [(o_noise, .inl (cI, 8, .inl o_noise_v)), (o_kind, .inl (cI, 6, .inl o_kind_v)), (o_looks, .inl (cI, 6, .inl o_looks_v)), (o_repeat, .inl (cI, 8, .inl o_repeat_v))]) (wf := [(o_h, .inr (5, [.int o_players, .int o_bars, .ref o_price, .ref o_breath, .ref o_kind, .ref o_looks, .ref o_noise, .ref o_repeat, .ref o_now, .ref o_readPlayer, .ref o_readBar, .int o_readPlayers, .int o_readBars, .ref o_text, .int o_length, .int o_at, .int o_faultAt, .int o_acts, .int o_next, .ref o_row, .int o_heard, .ref o_heardOf, .ref o_heardBars, .ref o_heardPlays, .int o_hushWho, .int o_hushSum, .long o_seed, .ref o_isKept, .ref o_kept])), (o_now, .inl (cI, 32, .inl r9)), (o_noise, .inl (cI, 8, .inl o_noise_v)), (o_kind, .inl (cI, 6, .inl o_kind_v)), (o_looks, .inl (cI, 6, .inl o_looks_v)), (o_repeat, .inl (cI, 8, .inl o_repeat_v)), (o_breath, .inl (cI, 6, .inl o_breath_v))]) [0, 1, 6] [2, 3, 4, 5] [4, 5, 0, 1, 2, 3, 6] rfl rfl rfl (by decide) rfl rfl (fun hB10 H locs hP hD hS => ?_)
            refine lv_aload_n hx hb dX5_loud_77 rfl (lv_at hl 0 rfl) ?_
            refine lv_iload_n hx hb dX5_loud_78 rfl (lv_at hl 1 rfl) ?_
            obtain ⟨r11, er11, hw⟩ := lxb_o hw
            refine hg_ciE (va_runV (As := [.int x0]) (rest := []) ⟨hx, hb, hml, hown, hts⟩ (c_X5_goOn l dC dI cI cZ cM _ o_h x0 o_players o_bars o_price o_breath o_kind o_looks o_noise o_repeat o_now o_readPlayer o_readBar o_readPlayers o_readBars o_text o_length o_at o_faultAt o_acts o_next o_row o_heard o_heardOf o_heardBars o_heardPlays o_hushWho o_hushSum o_seed o_isKept o_kept r9 o_noise_v o_kind_v o_looks_v o_repeat_v np enp (by omega) nb enb (by omega) hB10 r11 er11) (cwV 1 hts gX5_loud_X5_goOn rfl rfl rfl (by decide +kernel) ⟨Nat.le_of_ble_eq_true rfl, Nat.le_of_ble_eq_true rfl⟩) (hgPreV (C := RX5) (T := TX5) (N := 29) (ci := 5) (q0 := 0) hP hD hK hN [0, 1, 2, 3, 4, 5] rfl rfl rfl rfl) rfl rfl hl.1 rfl (lv_room (Nat.le_of_ble_eq_true rfl)) dX5_loud_79 ⟨Nat.zero_le _, Nat.zero_le _⟩) hP hD hS hA (wr := [(o_breath, .inl (cI, 6, .inl o_breath_v))]) (wf := [(o_h, .inr (5, [.int o_players, .int o_bars, .ref o_price, .ref o_breath, .ref o_kind, .ref o_looks, .ref o_noise, .ref o_repeat, .ref o_now, .ref o_readPlayer, .ref o_readBar, .int o_readPlayers, .int o_readBars, .ref o_text, .int o_length, .int o_at, .int o_faultAt, .int o_acts, .int o_next, .ref o_row, .int o_heard, .ref o_heardOf, .ref o_heardBars, .ref o_heardPlays, .int o_hushWho, .int o_hushSum, .long o_seed, .ref o_isKept, .ref o_kept])), (o_now, .inl (cI, 32, .inl r11.2)), (o_noise, .inl (cI, 8, .inl o_noise_v)), (o_kind, .inl (cI, 6, .inl o_kind_v)), (o_looks, .inl (cI, 6, .inl o_looks_v)), (o_repeat, .inl (cI, 8, .inl o_repeat_v)), (o_breath, .inl (cI, 6, .inl o_breath_v))]) [0, 1, 2, 3, 4, 5] [6] [1, 2, 3, 4, 5, 6, 0] rfl rfl rfl (by decide) rfl rfl (fun hB12 H locs hP hD hS => ?_)
            refine lv_istore (lv' := [(6, .int r11.1), (0, .ref o_h), (1, .int x0), (2, .int x1), (3, .int v35.1), (4, .int v35.2.1), (5, .int (nI k35))]) hx hb dX5_loud_82 hl (by decide) rfl (fun ls hl => ?_)
            refine lv_iload hx hb dX5_loud_84 (lv_at hl 0 rfl) ?_
            refine lv_iload hx hb dX5_loud_86 (lv_at hl 5 rfl) ?_
            obtain ⟨z13, ez13, hw⟩ := lxb_o hw
            refine hg_cut (D := (dC, dI)) (A0 := A) (H0 := s.heap) (ws := [(o_h, .inr (5, [.int o_players, .int o_bars, .ref o_price, .ref o_breath, .ref o_kind, .ref o_looks, .ref o_noise, .ref o_repeat, .ref o_now, .ref o_readPlayer, .ref o_readBar, .int o_readPlayers, .int o_readBars, .ref o_text, .int o_length, .int o_at, .int o_faultAt, .int o_acts, .int o_next, .ref o_row, .int o_heard, .ref o_heardOf, .ref o_heardBars, .ref o_heardPlays, .int o_hushWho, .int o_hushSum, .long o_seed, .ref o_isKept, .ref o_kept])), (o_now, .inl (cI, 32, .inl r11.2)), (o_noise, .inl (cI, 8, .inl o_noise_v)), (o_kind, .inl (cI, 6, .inl o_kind_v)), (o_looks, .inl (cI, 6, .inl o_looks_v)), (o_repeat, .inl (cI, 8, .inl o_repeat_v)), (o_breath, .inl (cI, 6, .inl o_breath_v))]) (g := F0 m 97 ls [.int z13]) ?_ (fun hJ => ?_)
            · intro H locs hP hD hS
              refine lv_istore_n (lv' := [(3, .int z13), (6, .int r11.1), (0, .ref o_h), (1, .int x0), (2, .int x1), (4, .int v35.2.1), (5, .int (nI k35))]) hx hb dX5_loud_97 rfl hl (by decide) rfl (fun ls hl => ?_)
              refine lv_iload hx hb dX5_loud_98 (lv_at hl 1 rfl) ?_
              refine lv_iload hx hb dX5_loud_100 (lv_at hl 5 rfl) ?_
              obtain ⟨z14, ez14, hw⟩ := lxb_o hw
              refine hg_cut (D := (dC, dI)) (A0 := A) (H0 := s.heap) (ws := [(o_h, .inr (5, [.int o_players, .int o_bars, .ref o_price, .ref o_breath, .ref o_kind, .ref o_looks, .ref o_noise, .ref o_repeat, .ref o_now, .ref o_readPlayer, .ref o_readBar, .int o_readPlayers, .int o_readBars, .ref o_text, .int o_length, .int o_at, .int o_faultAt, .int o_acts, .int o_next, .ref o_row, .int o_heard, .ref o_heardOf, .ref o_heardBars, .ref o_heardPlays, .int o_hushWho, .int o_hushSum, .long o_seed, .ref o_isKept, .ref o_kept])), (o_now, .inl (cI, 32, .inl r11.2)), (o_noise, .inl (cI, 8, .inl o_noise_v)), (o_kind, .inl (cI, 6, .inl o_kind_v)), (o_looks, .inl (cI, 6, .inl o_looks_v)), (o_repeat, .inl (cI, 8, .inl o_repeat_v)), (o_breath, .inl (cI, 6, .inl o_breath_v))]) (g := F0 m 112 ls [.int z14]) ?_ (fun hJ => ?_)
              · intro H locs hP hD hS
                refine lv_istore (lv' := [(4, .int z14), (3, .int z13), (6, .int r11.1), (0, .ref o_h), (1, .int x0), (2, .int x1), (5, .int (nI k35))]) hx hb dX5_loud_112 hl (by decide) rfl (fun ls hl => ?_)
                refine lv_iinc (v := nI (k35 + 1)) (lv' := [(5, .int (nI (k35 + 1))), (4, .int z14), (3, .int z13), (6, .int r11.1), (0, .ref o_h), (1, .int x0), (2, .int x1)]) hx hb dX5_loud_114 hl (k := 6) rfl (nI_1 k35) (by decide) rfl (fun ls hl => ?_)
                refine lv_goto (tgt := 35) hx hb dX5_loud_117 (by decide) ?_
                subst hw
                exact ih hB12 _ _ _ hP hD hS (lv_sub hl [4, 5, 6, 2, 1, 0] rfl)
              · refine lv_icmp_le (tgt := 110) hx hb dX5_loud_102 (by decide) (fun c_102 => ?_) (fun c_102 => ?_)
                · have ez14 := ez14.trans (if_pos c_102)
                  refine lv_iload hx hb dX5_loud_110 (lv_at hl 5 rfl) ?_
                  subst ez14
                  exact hJ _ _ hP hD hS
                · have ez14 := ez14.trans (if_neg c_102)
                  refine lv_iload hx hb dX5_loud_105 (lv_at hl 1 rfl) ?_
                  refine lv_goto (tgt := 112) hx hb dX5_loud_107 (by decide) ?_
                  subst ez14
                  exact hJ _ _ hP hD hS
            · refine lv_icmp_le (tgt := 96) hx hb dX5_loud_88 (by decide) (fun c_88 => ?_) (fun c_88 => ?_)
              · have ez13 := ez13.trans (if_pos c_88)
                refine lv_iload_n hx hb dX5_loud_96 rfl (lv_at hl 4 rfl) ?_
                subst ez13
                exact hJ _ _ hP hD hS
              · have ez13 := ez13.trans (if_neg c_88)
                refine lv_iload hx hb dX5_loud_91 (lv_at hl 6 rfl) ?_
                refine lv_goto (tgt := 97) hx hb dX5_loud_93 (by decide) ?_
                subst ez13
                exact hJ _ _ hP hD hS
        · have hw := hw.trans (if_neg c_46)
          refine lv_aload_n hx hb dX5_loud_49 rfl (lv_at hl 0 rfl) ?_
          refine lv_iconst (v := 0) hx hb dX5_loud_50 (by decide) ?_
          refine lv_iload hx hb dX5_loud_51 (lv_at hl 5 rfl) ?_
          obtain ⟨r15, er15, hw⟩ := lxb_o hw
          refine hg_ci (va_runV (As := [.int 0, .int (nI k35)]) (rest := []) ⟨hx, hb, hml, hown, hts⟩ (c_X5_canRest l dC dI cI cZ cM _ o_h 0 (nI k35) o_players o_bars o_price o_breath o_kind o_looks o_noise o_repeat o_now o_readPlayer o_readBar o_readPlayers o_readBars o_text o_length o_at o_faultAt o_acts o_next o_row o_heard o_heardOf o_heardBars o_heardPlays o_hushWho o_hushSum o_seed o_isKept o_kept v35.2.2 o_breath_v np enp (by omega) nb enb (by omega) 0 (show (0 : Int32) = nI 0 from rfl) (by omega) r15 er15) (cwV 2 hts gX5_loud_X5_canRest rfl rfl rfl (by decide +kernel) ⟨Nat.le_of_ble_eq_true rfl, Nat.le_of_ble_eq_true rfl⟩) (hgPreV (C := RX5) (T := TX5) (N := 29) (ci := 5) (q0 := 0) hP hD hK hN [0, 1, 6] rfl rfl rfl rfl) rfl rfl hl.1 rfl (lv_room (Nat.le_of_ble_eq_true rfl)) dX5_loud_53 ⟨Nat.zero_le _, Nat.zero_le _⟩) hP hD hS hA (wr := [(o_noise, .inl (cI, 8, .inl o_noise_v)), (o_kind, .inl (cI, 6, .inl o_kind_v)), (o_looks, .inl (cI, 6, .inl o_looks_v)), (o_repeat, .inl (cI, 8, .inl o_repeat_v))]) (wf := [(o_h, .inr (5, [.int o_players, .int o_bars, .ref o_price, .ref o_breath, .ref o_kind, .ref o_looks, .ref o_noise, .ref o_repeat, .ref o_now, .ref o_readPlayer, .ref o_readBar, .int o_readPlayers, .int o_readBars, .ref o_text, .int o_length, .int o_at, .int o_faultAt, .int o_acts, .int o_next, .ref o_row, .int o_heard, .ref o_heardOf, .ref o_heardBars, .ref o_heardPlays, .int o_hushWho, .int o_hushSum, .long o_seed, .ref o_isKept, .ref o_kept])), (o_now, .inl (cI, 32, .inl v35.2.2)), (o_noise, .inl (cI, 8, .inl o_noise_v)), (o_kind, .inl (cI, 6, .inl o_kind_v)), (o_looks, .inl (cI, 6, .inl o_looks_v)), (o_repeat, .inl (cI, 8, .inl o_repeat_v)), (o_breath, .inl (cI, 6, .inl o_breath_v))]) [0, 1, 6] [2, 3, 4, 5] [4, 5, 0, 1, 2, 3, 6] rfl rfl rfl (by decide) rfl rfl (fun H locs hP hD hS => ?_)
          refine lv_if_eq (tgt := 114) hx hb dX5_loud_56 (by decide) (fun c_56 => ?_) (fun c_56 => ?_)
          · have hw := hw.trans (if_pos c_56)
            refine lv_iinc (v := nI (k35 + 1)) (lv' := [(5, .int (nI (k35 + 1))), (0, .ref o_h), (1, .int x0), (2, .int x1), (3, .int v35.1), (4, .int v35.2.1)]) hx hb dX5_loud_114 hl (k := 5) rfl (nI_1 k35) (by decide) rfl (fun ls hl => ?_)
            refine lv_goto (tgt := 35) hx hb dX5_loud_117 (by decide) ?_
            subst hw
            exact ih hJ35 _ _ _ hP hD hS (lv_sub hl [1, 2, 3, 4, 5, 0] rfl)
          · have hw := hw.trans (if_neg c_56)
            have hkp : k35 < np := mCanRestK enp hnp (by omega) er15 c_56
            refine lv_aload_n hx hb dX5_loud_59 rfl (lv_at hl 0 rfl) ?_
            obtain ⟨r16, er16, hw⟩ := lxb_o hw
            refine hg_cvE (va_runV (As := []) (rest := []) ⟨hx, hb, hml, hown, hts⟩ (c_X5_layTrial l dC dI cI cZ cM _ o_h o_players o_bars o_price o_breath o_kind o_looks o_noise o_repeat o_now o_readPlayer o_readBar o_readPlayers o_readBars o_text o_length o_at o_faultAt o_acts o_next o_row o_heard o_heardOf o_heardBars o_heardPlays o_hushWho o_hushSum o_seed o_isKept o_kept v35.2.2 np enp (by omega) nb enb (by omega) hJ35 r16 er16) (cwV 0 hts gX5_loud_X5_layTrial rfl rfl rfl (by decide +kernel) ⟨Nat.le_of_ble_eq_true rfl, Nat.le_of_ble_eq_true rfl⟩) (hgPreV (C := RX5) (T := TX5) (N := 29) (ci := 5) (q0 := 0) hP hD hK hN [0, 1] rfl rfl rfl rfl) rfl rfl hl.1 rfl (lv_room (Nat.le_of_ble_eq_true rfl)) dX5_loud_60 ⟨Nat.zero_le _, Nat.zero_le _⟩) hP hD hS hA (wr := [(o_noise, .inl (cI, 8, .inl o_noise_v)), (o_kind, .inl (cI, 6, .inl o_kind_v)), (o_looks, .inl (cI, 6, .inl o_looks_v)), (o_repeat, .inl (cI, 8, .inl o_repeat_v)), (o_breath, .inl (cI, 6, .inl o_breath_v))]) (wf := [(o_h, .inr (5, [.int o_players, .int o_bars, .ref o_price, .ref o_breath, .ref o_kind, .ref o_looks, .ref o_noise, .ref o_repeat, .ref o_now, .ref o_readPlayer, .ref o_readBar, .int o_readPlayers, .int o_readBars, .ref o_text, .int o_length, .int o_at, .int o_faultAt, .int o_acts, .int o_next, .ref o_row, .int o_heard, .ref o_heardOf, .ref o_heardBars, .ref o_heardPlays, .int o_hushWho, .int o_hushSum, .long o_seed, .ref o_isKept, .ref o_kept])), (o_now, .inl (cI, 32, .inl r16)), (o_noise, .inl (cI, 8, .inl o_noise_v)), (o_kind, .inl (cI, 6, .inl o_kind_v)), (o_looks, .inl (cI, 6, .inl o_looks_v)), (o_repeat, .inl (cI, 8, .inl o_repeat_v)), (o_breath, .inl (cI, 6, .inl o_breath_v))]) [0, 1] [2, 3, 4, 5, 6] [5, 6, 0, 1, 2, 3, 4] rfl rfl rfl (by decide) rfl rfl (fun hB17 H locs hP hD hS => ?_)
            refine lv_iload hx hb dX5_loud_63 (lv_at hl 5 rfl) ?_
            refine lv_bipush (v := 6) hx hb dX5_loud_65 (by decide) ?_
            refine lv_icmp_ge (tgt := 77) hx hb dX5_loud_67 (by decide) (fun c_67 => ?_) (fun c_67 => ?_)
            · have hw := hw.trans (if_pos c_67)
              refine lv_aload_n hx hb dX5_loud_77 rfl (lv_at hl 0 rfl) ?_
              refine lv_iload_n hx hb dX5_loud_78 rfl (lv_at hl 1 rfl) ?_
              obtain ⟨r18, er18, hw⟩ := lxb_o hw
              refine hg_ciE (va_runV (As := [.int x0]) (rest := []) ⟨hx, hb, hml, hown, hts⟩ (c_X5_goOn l dC dI cI cZ cM _ o_h x0 o_players o_bars o_price o_breath o_kind o_looks o_noise o_repeat o_now o_readPlayer o_readBar o_readPlayers o_readBars o_text o_length o_at o_faultAt o_acts o_next o_row o_heard o_heardOf o_heardBars o_heardPlays o_hushWho o_hushSum o_seed o_isKept o_kept r16 o_noise_v o_kind_v o_looks_v o_repeat_v np enp (by omega) nb enb (by omega) hB17 r18 er18) (cwV 1 hts gX5_loud_X5_goOn rfl rfl rfl (by decide +kernel) ⟨Nat.le_of_ble_eq_true rfl, Nat.le_of_ble_eq_true rfl⟩) (hgPreV (C := RX5) (T := TX5) (N := 29) (ci := 5) (q0 := 0) hP hD hK hN [0, 1, 2, 3, 4, 5] rfl rfl rfl rfl) rfl rfl hl.1 rfl (lv_room (Nat.le_of_ble_eq_true rfl)) dX5_loud_79 ⟨Nat.zero_le _, Nat.zero_le _⟩) hP hD hS hA (wr := [(o_breath, .inl (cI, 6, .inl o_breath_v))]) (wf := [(o_h, .inr (5, [.int o_players, .int o_bars, .ref o_price, .ref o_breath, .ref o_kind, .ref o_looks, .ref o_noise, .ref o_repeat, .ref o_now, .ref o_readPlayer, .ref o_readBar, .int o_readPlayers, .int o_readBars, .ref o_text, .int o_length, .int o_at, .int o_faultAt, .int o_acts, .int o_next, .ref o_row, .int o_heard, .ref o_heardOf, .ref o_heardBars, .ref o_heardPlays, .int o_hushWho, .int o_hushSum, .long o_seed, .ref o_isKept, .ref o_kept])), (o_now, .inl (cI, 32, .inl r18.2)), (o_noise, .inl (cI, 8, .inl o_noise_v)), (o_kind, .inl (cI, 6, .inl o_kind_v)), (o_looks, .inl (cI, 6, .inl o_looks_v)), (o_repeat, .inl (cI, 8, .inl o_repeat_v)), (o_breath, .inl (cI, 6, .inl o_breath_v))]) [0, 1, 2, 3, 4, 5] [6] [1, 2, 3, 4, 5, 6, 0] rfl rfl rfl (by decide) rfl rfl (fun hB19 H locs hP hD hS => ?_)
              refine lv_istore (lv' := [(6, .int r18.1), (0, .ref o_h), (1, .int x0), (2, .int x1), (3, .int v35.1), (4, .int v35.2.1), (5, .int (nI k35))]) hx hb dX5_loud_82 hl (by decide) rfl (fun ls hl => ?_)
              refine lv_iload hx hb dX5_loud_84 (lv_at hl 0 rfl) ?_
              refine lv_iload hx hb dX5_loud_86 (lv_at hl 5 rfl) ?_
              obtain ⟨z20, ez20, hw⟩ := lxb_o hw
              refine hg_cut (D := (dC, dI)) (A0 := A) (H0 := s.heap) (ws := [(o_h, .inr (5, [.int o_players, .int o_bars, .ref o_price, .ref o_breath, .ref o_kind, .ref o_looks, .ref o_noise, .ref o_repeat, .ref o_now, .ref o_readPlayer, .ref o_readBar, .int o_readPlayers, .int o_readBars, .ref o_text, .int o_length, .int o_at, .int o_faultAt, .int o_acts, .int o_next, .ref o_row, .int o_heard, .ref o_heardOf, .ref o_heardBars, .ref o_heardPlays, .int o_hushWho, .int o_hushSum, .long o_seed, .ref o_isKept, .ref o_kept])), (o_now, .inl (cI, 32, .inl r18.2)), (o_noise, .inl (cI, 8, .inl o_noise_v)), (o_kind, .inl (cI, 6, .inl o_kind_v)), (o_looks, .inl (cI, 6, .inl o_looks_v)), (o_repeat, .inl (cI, 8, .inl o_repeat_v)), (o_breath, .inl (cI, 6, .inl o_breath_v))]) (g := F0 m 97 ls [.int z20]) ?_ (fun hJ => ?_)
              · intro H locs hP hD hS
                refine lv_istore_n (lv' := [(3, .int z20), (6, .int r18.1), (0, .ref o_h), (1, .int x0), (2, .int x1), (4, .int v35.2.1), (5, .int (nI k35))]) hx hb dX5_loud_97 rfl hl (by decide) rfl (fun ls hl => ?_)
                refine lv_iload hx hb dX5_loud_98 (lv_at hl 1 rfl) ?_
                refine lv_iload hx hb dX5_loud_100 (lv_at hl 5 rfl) ?_
                obtain ⟨z21, ez21, hw⟩ := lxb_o hw
                refine hg_cut (D := (dC, dI)) (A0 := A) (H0 := s.heap) (ws := [(o_h, .inr (5, [.int o_players, .int o_bars, .ref o_price, .ref o_breath, .ref o_kind, .ref o_looks, .ref o_noise, .ref o_repeat, .ref o_now, .ref o_readPlayer, .ref o_readBar, .int o_readPlayers, .int o_readBars, .ref o_text, .int o_length, .int o_at, .int o_faultAt, .int o_acts, .int o_next, .ref o_row, .int o_heard, .ref o_heardOf, .ref o_heardBars, .ref o_heardPlays, .int o_hushWho, .int o_hushSum, .long o_seed, .ref o_isKept, .ref o_kept])), (o_now, .inl (cI, 32, .inl r18.2)), (o_noise, .inl (cI, 8, .inl o_noise_v)), (o_kind, .inl (cI, 6, .inl o_kind_v)), (o_looks, .inl (cI, 6, .inl o_looks_v)), (o_repeat, .inl (cI, 8, .inl o_repeat_v)), (o_breath, .inl (cI, 6, .inl o_breath_v))]) (g := F0 m 112 ls [.int z21]) ?_ (fun hJ => ?_)
                · intro H locs hP hD hS
                  refine lv_istore (lv' := [(4, .int z21), (3, .int z20), (6, .int r18.1), (0, .ref o_h), (1, .int x0), (2, .int x1), (5, .int (nI k35))]) hx hb dX5_loud_112 hl (by decide) rfl (fun ls hl => ?_)
                  refine lv_iinc (v := nI (k35 + 1)) (lv' := [(5, .int (nI (k35 + 1))), (4, .int z21), (3, .int z20), (6, .int r18.1), (0, .ref o_h), (1, .int x0), (2, .int x1)]) hx hb dX5_loud_114 hl (k := 6) rfl (nI_1 k35) (by decide) rfl (fun ls hl => ?_)
                  refine lv_goto (tgt := 35) hx hb dX5_loud_117 (by decide) ?_
                  subst hw
                  exact ih hB19 _ _ _ hP hD hS (lv_sub hl [4, 5, 6, 2, 1, 0] rfl)
                · refine lv_icmp_le (tgt := 110) hx hb dX5_loud_102 (by decide) (fun c_102 => ?_) (fun c_102 => ?_)
                  · have ez21 := ez21.trans (if_pos c_102)
                    refine lv_iload hx hb dX5_loud_110 (lv_at hl 5 rfl) ?_
                    subst ez21
                    exact hJ _ _ hP hD hS
                  · have ez21 := ez21.trans (if_neg c_102)
                    refine lv_iload hx hb dX5_loud_105 (lv_at hl 1 rfl) ?_
                    refine lv_goto (tgt := 112) hx hb dX5_loud_107 (by decide) ?_
                    subst ez21
                    exact hJ _ _ hP hD hS
              · refine lv_icmp_le (tgt := 96) hx hb dX5_loud_88 (by decide) (fun c_88 => ?_) (fun c_88 => ?_)
                · have ez20 := ez20.trans (if_pos c_88)
                  refine lv_iload_n hx hb dX5_loud_96 rfl (lv_at hl 4 rfl) ?_
                  subst ez20
                  exact hJ _ _ hP hD hS
                · have ez20 := ez20.trans (if_neg c_88)
                  refine lv_iload hx hb dX5_loud_91 (lv_at hl 6 rfl) ?_
                  refine lv_goto (tgt := 97) hx hb dX5_loud_93 (by decide) ?_
                  subst ez20
                  exact hJ _ _ hP hD hS
            · have hw := hw.trans (if_neg c_67)
              refine lv_aload_n hx hb dX5_loud_70 rfl (lv_at hl 0 rfl) ?_
              refine lv_iconst (v := 1) hx hb dX5_loud_71 (by decide) ?_
              refine lv_iload hx hb dX5_loud_72 (lv_at hl 5 rfl) ?_
              obtain ⟨r22, er22, hw⟩ := lxb_o hw
              refine hg_cvE (va_runV (As := [.int 1, .int (nI k35)]) (rest := []) ⟨hx, hb, hml, hown, hts⟩ (c_X5_restOn l dC dI cI cZ cM _ o_h 1 (nI k35) o_players o_bars o_price o_breath o_kind o_looks o_noise o_repeat o_now o_readPlayer o_readBar o_readPlayers o_readBars o_text o_length o_at o_faultAt o_acts o_next o_row o_heard o_heardOf o_heardBars o_heardPlays o_hushWho o_hushSum o_seed o_isKept o_kept r16 o_breath_v np enp (by omega) nb enb (by omega) 1 (show (1 : Int32) = nI 1 from rfl) (by omega) k35 rfl (by omega) hB17 r22 er22) (cwV 2 hts gX5_loud_X5_restOn rfl rfl rfl (by decide +kernel) ⟨Nat.le_of_ble_eq_true rfl, Nat.le_of_ble_eq_true rfl⟩) (hgPreV (C := RX5) (T := TX5) (N := 29) (ci := 5) (q0 := 0) hP hD hK hN [0, 1, 6] rfl rfl rfl rfl) rfl rfl hl.1 rfl (lv_room (Nat.le_of_ble_eq_true rfl)) dX5_loud_74 ⟨Nat.zero_le _, Nat.zero_le _⟩) hP hD hS hA (wr := [(o_noise, .inl (cI, 8, .inl o_noise_v)), (o_kind, .inl (cI, 6, .inl o_kind_v)), (o_looks, .inl (cI, 6, .inl o_looks_v)), (o_repeat, .inl (cI, 8, .inl o_repeat_v))]) (wf := [(o_h, .inr (5, [.int o_players, .int o_bars, .ref o_price, .ref o_breath, .ref o_kind, .ref o_looks, .ref o_noise, .ref o_repeat, .ref o_now, .ref o_readPlayer, .ref o_readBar, .int o_readPlayers, .int o_readBars, .ref o_text, .int o_length, .int o_at, .int o_faultAt, .int o_acts, .int o_next, .ref o_row, .int o_heard, .ref o_heardOf, .ref o_heardBars, .ref o_heardPlays, .int o_hushWho, .int o_hushSum, .long o_seed, .ref o_isKept, .ref o_kept])), (o_now, .inl (cI, 32, .inl r22)), (o_noise, .inl (cI, 8, .inl o_noise_v)), (o_kind, .inl (cI, 6, .inl o_kind_v)), (o_looks, .inl (cI, 6, .inl o_looks_v)), (o_repeat, .inl (cI, 8, .inl o_repeat_v)), (o_breath, .inl (cI, 6, .inl o_breath_v))]) [0, 1, 6] [2, 3, 4, 5] [4, 5, 0, 1, 2, 3, 6] rfl rfl rfl (by decide) rfl rfl (fun hB23 H locs hP hD hS => ?_)
              refine lv_aload_n hx hb dX5_loud_77 rfl (lv_at hl 0 rfl) ?_
              refine lv_iload_n hx hb dX5_loud_78 rfl (lv_at hl 1 rfl) ?_
              obtain ⟨r24, er24, hw⟩ := lxb_o hw
              refine hg_ciE (va_runV (As := [.int x0]) (rest := []) ⟨hx, hb, hml, hown, hts⟩ (c_X5_goOn l dC dI cI cZ cM _ o_h x0 o_players o_bars o_price o_breath o_kind o_looks o_noise o_repeat o_now o_readPlayer o_readBar o_readPlayers o_readBars o_text o_length o_at o_faultAt o_acts o_next o_row o_heard o_heardOf o_heardBars o_heardPlays o_hushWho o_hushSum o_seed o_isKept o_kept r22 o_noise_v o_kind_v o_looks_v o_repeat_v np enp (by omega) nb enb (by omega) hB23 r24 er24) (cwV 1 hts gX5_loud_X5_goOn rfl rfl rfl (by decide +kernel) ⟨Nat.le_of_ble_eq_true rfl, Nat.le_of_ble_eq_true rfl⟩) (hgPreV (C := RX5) (T := TX5) (N := 29) (ci := 5) (q0 := 0) hP hD hK hN [0, 1, 2, 3, 4, 5] rfl rfl rfl rfl) rfl rfl hl.1 rfl (lv_room (Nat.le_of_ble_eq_true rfl)) dX5_loud_79 ⟨Nat.zero_le _, Nat.zero_le _⟩) hP hD hS hA (wr := [(o_breath, .inl (cI, 6, .inl o_breath_v))]) (wf := [(o_h, .inr (5, [.int o_players, .int o_bars, .ref o_price, .ref o_breath, .ref o_kind, .ref o_looks, .ref o_noise, .ref o_repeat, .ref o_now, .ref o_readPlayer, .ref o_readBar, .int o_readPlayers, .int o_readBars, .ref o_text, .int o_length, .int o_at, .int o_faultAt, .int o_acts, .int o_next, .ref o_row, .int o_heard, .ref o_heardOf, .ref o_heardBars, .ref o_heardPlays, .int o_hushWho, .int o_hushSum, .long o_seed, .ref o_isKept, .ref o_kept])), (o_now, .inl (cI, 32, .inl r24.2)), (o_noise, .inl (cI, 8, .inl o_noise_v)), (o_kind, .inl (cI, 6, .inl o_kind_v)), (o_looks, .inl (cI, 6, .inl o_looks_v)), (o_repeat, .inl (cI, 8, .inl o_repeat_v)), (o_breath, .inl (cI, 6, .inl o_breath_v))]) [0, 1, 2, 3, 4, 5] [6] [1, 2, 3, 4, 5, 6, 0] rfl rfl rfl (by decide) rfl rfl (fun hB25 H locs hP hD hS => ?_)
              refine lv_istore (lv' := [(6, .int r24.1), (0, .ref o_h), (1, .int x0), (2, .int x1), (3, .int v35.1), (4, .int v35.2.1), (5, .int (nI k35))]) hx hb dX5_loud_82 hl (by decide) rfl (fun ls hl => ?_)
              refine lv_iload hx hb dX5_loud_84 (lv_at hl 0 rfl) ?_
              refine lv_iload hx hb dX5_loud_86 (lv_at hl 5 rfl) ?_
              obtain ⟨z26, ez26, hw⟩ := lxb_o hw
              refine hg_cut (D := (dC, dI)) (A0 := A) (H0 := s.heap) (ws := [(o_h, .inr (5, [.int o_players, .int o_bars, .ref o_price, .ref o_breath, .ref o_kind, .ref o_looks, .ref o_noise, .ref o_repeat, .ref o_now, .ref o_readPlayer, .ref o_readBar, .int o_readPlayers, .int o_readBars, .ref o_text, .int o_length, .int o_at, .int o_faultAt, .int o_acts, .int o_next, .ref o_row, .int o_heard, .ref o_heardOf, .ref o_heardBars, .ref o_heardPlays, .int o_hushWho, .int o_hushSum, .long o_seed, .ref o_isKept, .ref o_kept])), (o_now, .inl (cI, 32, .inl r24.2)), (o_noise, .inl (cI, 8, .inl o_noise_v)), (o_kind, .inl (cI, 6, .inl o_kind_v)), (o_looks, .inl (cI, 6, .inl o_looks_v)), (o_repeat, .inl (cI, 8, .inl o_repeat_v)), (o_breath, .inl (cI, 6, .inl o_breath_v))]) (g := F0 m 97 ls [.int z26]) ?_ (fun hJ => ?_)
              · intro H locs hP hD hS
                refine lv_istore_n (lv' := [(3, .int z26), (6, .int r24.1), (0, .ref o_h), (1, .int x0), (2, .int x1), (4, .int v35.2.1), (5, .int (nI k35))]) hx hb dX5_loud_97 rfl hl (by decide) rfl (fun ls hl => ?_)
                refine lv_iload hx hb dX5_loud_98 (lv_at hl 1 rfl) ?_
                refine lv_iload hx hb dX5_loud_100 (lv_at hl 5 rfl) ?_
                obtain ⟨z27, ez27, hw⟩ := lxb_o hw
                refine hg_cut (D := (dC, dI)) (A0 := A) (H0 := s.heap) (ws := [(o_h, .inr (5, [.int o_players, .int o_bars, .ref o_price, .ref o_breath, .ref o_kind, .ref o_looks, .ref o_noise, .ref o_repeat, .ref o_now, .ref o_readPlayer, .ref o_readBar, .int o_readPlayers, .int o_readBars, .ref o_text, .int o_length, .int o_at, .int o_faultAt, .int o_acts, .int o_next, .ref o_row, .int o_heard, .ref o_heardOf, .ref o_heardBars, .ref o_heardPlays, .int o_hushWho, .int o_hushSum, .long o_seed, .ref o_isKept, .ref o_kept])), (o_now, .inl (cI, 32, .inl r24.2)), (o_noise, .inl (cI, 8, .inl o_noise_v)), (o_kind, .inl (cI, 6, .inl o_kind_v)), (o_looks, .inl (cI, 6, .inl o_looks_v)), (o_repeat, .inl (cI, 8, .inl o_repeat_v)), (o_breath, .inl (cI, 6, .inl o_breath_v))]) (g := F0 m 112 ls [.int z27]) ?_ (fun hJ => ?_)
                · intro H locs hP hD hS
                  refine lv_istore (lv' := [(4, .int z27), (3, .int z26), (6, .int r24.1), (0, .ref o_h), (1, .int x0), (2, .int x1), (5, .int (nI k35))]) hx hb dX5_loud_112 hl (by decide) rfl (fun ls hl => ?_)
                  refine lv_iinc (v := nI (k35 + 1)) (lv' := [(5, .int (nI (k35 + 1))), (4, .int z27), (3, .int z26), (6, .int r24.1), (0, .ref o_h), (1, .int x0), (2, .int x1)]) hx hb dX5_loud_114 hl (k := 6) rfl (nI_1 k35) (by decide) rfl (fun ls hl => ?_)
                  refine lv_goto (tgt := 35) hx hb dX5_loud_117 (by decide) ?_
                  subst hw
                  exact ih hB25 _ _ _ hP hD hS (lv_sub hl [4, 5, 6, 2, 1, 0] rfl)
                · refine lv_icmp_le (tgt := 110) hx hb dX5_loud_102 (by decide) (fun c_102 => ?_) (fun c_102 => ?_)
                  · have ez27 := ez27.trans (if_pos c_102)
                    refine lv_iload hx hb dX5_loud_110 (lv_at hl 5 rfl) ?_
                    subst ez27
                    exact hJ _ _ hP hD hS
                  · have ez27 := ez27.trans (if_neg c_102)
                    refine lv_iload hx hb dX5_loud_105 (lv_at hl 1 rfl) ?_
                    refine lv_goto (tgt := 112) hx hb dX5_loud_107 (by decide) ?_
                    subst ez27
                    exact hJ _ _ hP hD hS
              · refine lv_icmp_le (tgt := 96) hx hb dX5_loud_88 (by decide) (fun c_88 => ?_) (fun c_88 => ?_)
                · have ez26 := ez26.trans (if_pos c_88)
                  refine lv_iload_n hx hb dX5_loud_96 rfl (lv_at hl 4 rfl) ?_
                  subst ez26
                  exact hJ _ _ hP hD hS
                · have ez26 := ez26.trans (if_neg c_88)
                  refine lv_iload hx hb dX5_loud_91 (lv_at hl 6 rfl) ?_
                  refine lv_goto (tgt := 97) hx hb dX5_loud_93 (by decide) ?_
                  subst ez26
                  exact hJ _ _ hP hD hS
    · have hu := hu.trans (if_pos c_19)
      refine lv_bipush (v := (-2)) hx hb dX5_loud_22 (by decide) ?_
      subst hu
      exact hg_ri hx hb hr hlk rfl hP hD hS dX5_loud_24
