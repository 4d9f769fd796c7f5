def f_X3_hasPlayer (x0 : Int32) (t_players : Int32) : Int32 :=
  if x0 < 0 then 0
  else if t_players ≤ x0 then 0
   else 1

def f_X3_hasBar (x0 : Int32) (t_bars : Int32) : Int32 :=
  if x0 < 0 then 0
  else if t_bars ≤ x0 then 0
   else 1

def f_X3_everybody (t_players : Int32) : Int32 :=
  ((1 <<< (t_players &&& 31)) - 1)

def b_X3_priceOf_4 (x0 : Int32) (t_prices_v : Nat → Int32) (k4 : Nat) (v4 : Int32) : Int32 :=
  if ((x0 >>> (nI k4 &&& 31)) &&& 1) = 1 then (lxb (f_X4_at (nI k4) 6 t_prices_v) (fun r1 =>
   (v4 + r1)))
  else v4
def l_X3_priceOf_4 (x0 : Int32) (t_prices_v : Nat → Int32) (i0 : Int32) : Nat → Int32
  | 0 => i0
  | k + 1 => b_X3_priceOf_4 x0 t_prices_v k (l_X3_priceOf_4 x0 t_prices_v i0 k)
def f_X3_priceOf (x0 : Int32) (t_players : Int32) (t_prices_v : Nat → Int32) : Int32 :=
  lxb (l_X3_priceOf_4 x0 t_prices_v 0 (itn 0 t_players)) (fun r2 =>
  r2)

def f_X3_isCheaper (x0 : Int32) (x1 : Int32) (t_players : Int32) (t_prices_v : Nat → Int32) : Int32 :=
  lxb (f_X3_priceOf x0 t_players t_prices_v) (fun r1 =>
  lxb (f_X3_priceOf x1 t_players t_prices_v) (fun r2 =>
   lxb (f_J6_compare r1 r2) (fun r3 =>
    lxb (f_J6_bitCount x0) (fun r4 =>
     lxb (f_J6_bitCount x1) (fun r5 =>
      lxb (f_J6_compare r4 r5) (fun r6 =>
       if r3 = 0 then (if r6 = 0 then (if x1 ≤ x0 then 0
          else 1)
         else if 0 ≤ r6 then 0
          else 1)
        else if 0 ≤ r3 then 0
         else 1))))))

def f_X3_takeWithin (x1 : Int32) (x2 : Int32) (x3 : Int32) (x4 : Int32) (r0_n : Nat) (r0_v : Nat → Int32) : Int32 × (Nat → Int32) :=
  if x2 < x3 then (0, r0_v)
  else if x2 ≤ x4 then (lxb (f_X4_put x1 x2 r0_n r0_v) (fun r1 =>
    (1, r1)))
   else (0, r0_v)
theorem z_X3_takeWithin {x1 : Int32} {x2 : Int32} {x3 : Int32} {x4 : Int32} {r0_n : Nat} {r0_v : Nat → Int32} {r : Int32 × (Nat → Int32)} (er : r = f_X3_takeWithin x1 x2 x3 x4 r0_n r0_v) : narrow .boolean (.int r.1) = .int r.1 := by
  subst er
  simp only [f_X3_takeWithin, lxb]
  repeat' split
  all_goals first | exact (by decide : narrow .boolean (.int (0 : Int32)) = .int 0) | exact (by decide : narrow .boolean (.int (1 : Int32)) = .int 1)

def f_X3_takeBarFigure (x0 : Int32) (x1 : Int32) (t_bars : Int32) (t_repeats_v : Nat → Int32) (t_noises_v : Nat → Int32) : Int32 × (Nat → Int32) × (Nat → Int32) :=
  if x0 = 1 then (lxb (f_X3_takeWithin (t_bars - 1) x1 0 7 8 t_repeats_v) (fun r1 =>
   (r1.1, r1.2, t_noises_v)))
  else if x0 = 2 then (lxb (f_X3_takeWithin (t_bars - 1) x1 0 9 8 t_noises_v) (fun r2 =>
    (r2.1, t_repeats_v, r2.2)))
   else (0, t_repeats_v, t_noises_v)

def f_X3_takePlayerFigure (x0 : Int32) (x1 : Int32) (t_players : Int32) (t_looks_v : Nat → Int32) (t_kinds_v : Nat → Int32) (t_winds_v : Nat → Int32) (t_prices_v : Nat → Int32) : Int32 × (Nat → Int32) × (Nat → Int32) × (Nat → Int32) × (Nat → Int32) :=
  if x0 = 1 then (lxb (f_X3_takeWithin (t_players - 1) x1 0 5 6 t_looks_v) (fun r1 =>
   (r1.1, r1.2, t_kinds_v, t_winds_v, t_prices_v)))
  else if x0 = 2 then (lxb (f_X3_takeWithin (t_players - 1) x1 0 3 6 t_kinds_v) (fun r2 =>
    (r2.1, t_looks_v, r2.2, t_winds_v, t_prices_v)))
   else if x0 = 3 then (lxb (f_X3_takeWithin (t_players - 1) x1 0 9 6 t_winds_v) (fun r3 =>
     (r3.1, t_looks_v, t_kinds_v, r3.2, t_prices_v)))
    else if x0 = 4 then (lxb (f_X3_takeWithin (t_players - 1) x1 1 9 6 t_prices_v) (fun r4 =>
      (r4.1, t_looks_v, t_kinds_v, t_winds_v, r4.2)))
     else (0, t_looks_v, t_kinds_v, t_winds_v, t_prices_v)

def f_X3_figuresOfNewPart (x0 : Int32) (t_players : Int32) (t_bars : Int32) : Int32 × Int32 × Int32 :=
  if x0 = 80 then (if 6 ≤ t_players then (if x0 = 66 then (if 8 ≤ t_bars then (0, t_players, t_bars)
     else (2, t_players, (t_bars + 1)))
    else (0, t_players, t_bars))
   else (4, (t_players + 1), t_bars))
  else if x0 = 66 then (if 8 ≤ t_bars then (0, t_players, t_bars)
    else (2, t_players, (t_bars + 1)))
   else (0, t_players, t_bars)
set_option maxHeartbeats 4000000 in
set_option maxRecDepth 100000 in
theorem c_X3_hasPlayer (l : Launch) (dC : Nat → ClassId) (dI : Nat → Nat → Nat) (cI cZ cM : ClassId) (sz : Nat) (t_h : Nat) (x0 : Int32) (t_players : Int32) (t_bars : Int32) (t_prices : Nat) (t_winds : Nat) (t_kinds : Nat) (t_looks : Nat) (t_noises : Nat) (t_repeats : Nat) (u : Int32) (hu : u = f_X3_hasPlayer x0 t_players) : Met l yX3_hasPlayer wsX3_hasPlayer { frames := 0, cells := 0, slots := 0, locals := 0 } (hgPc [.ref t_h, .int x0] (dC, dI) cI cZ cM [(t_h, .inr (3, [.int t_players, .int t_bars, .ref t_prices, .ref t_winds, .ref t_kinds, .ref t_looks, .ref t_noises, .ref t_repeats]))] sz) (hgQi (dC, dI) u [(t_h, .inr (3, [.int t_players, .int t_bars, .ref t_prices, .ref t_winds, .ref t_kinds, .ref t_looks, .ref t_noises, .ref t_repeats]))] (va_A [(t_h, .inr (3, [.int t_players, .int t_bars, .ref t_prices, .ref t_winds, .ref t_kinds, .ref t_looks, .ref t_noises, .ref t_repeats]))] sz)) 0 0 (va_A [(t_h, .inr (3, [.int t_players, .int t_bars, .ref t_prices, .ref t_winds, .ref t_kinds, .ref t_looks, .ref t_noises, .ref t_repeats]))] sz) := by
  refine hg_ofW (cc := cX3_hasPlayer) (maxL := 2) (ret := (some .boolean)) (own := RX3) (fun A => hgQi (dC, dI) u [(t_h, .inr (3, [.int t_players, .int t_bars, .ref t_prices, .ref t_winds, .ref t_kinds, .ref t_looks, .ref t_noises, .ref t_repeats]))] A) rfl (by decide) rfl (Nat.le_of_ble_eq_true rfl) ?_
  intro p e s m below meth c ls A hsz hx hb hr hml hown hts hlk hnm hK hN hA hP hD hS hl
  subst hsz
  have w1 := hts (.fieldLink RX3 30 "HatGoesRound$Told" "players" "I") (List.mem_of_getElem? (i := 1) rfl)
  have hinX3 : ∀ w ∈ u_ws RX3 TX3 8, w ∈ wsX3_hasPlayer := fun _ h => List.mem_cons_of_mem _ (List.mem_append_right _ h)
  have hl : lv_has ls 2 [(0, .ref t_h), (1, .int x0)] := hl
  unfold f_X3_hasPlayer at hu
  refine lv_iload_n hx hb dX3_hasPlayer_0 rfl (lv_at hl 1 rfl) ?_
  refine lv_if_lt (tgt := 16) hx hb dX3_hasPlayer_1 (by decide) (fun c_1 => ?_) (fun c_1 => ?_)
  · have hu := hu.trans (if_pos c_1)
    refine lv_iconst (v := 0) hx hb dX3_hasPlayer_16 (by decide) ?_
    subst hu
    exact hg_rz hx hb hr hlk (by decide) rfl hP hD hS dX3_hasPlayer_17
  · have hu := hu.trans (if_neg c_1)
    refine lv_iload_n hx hb dX3_hasPlayer_4 rfl (lv_at hl 1 rfl) ?_
    refine lv_aload_n hx hb dX3_hasPlayer_5 rfl (lv_at hl 0 rfl) ?_
    refine va_get (D := (dC, dI)) (ci := 3) (v := .int t_players) (C := RX3) (T := TX3) (N := 8) hx hb hts hinX3 hown hK hP 0 rfl rfl 0 (by decide) w1 (fun _ h9 => h9) rfl dX3_hasPlayer_6 ?_
    refine lv_icmp_ge (tgt := 16) hx hb dX3_hasPlayer_9 (by decide) (fun c_9 => ?_) (fun c_9 => ?_)
    · have hu := hu.trans (if_pos c_9)
      refine lv_iconst (v := 0) hx hb dX3_hasPlayer_16 (by decide) ?_
      subst hu
      exact hg_rz hx hb hr hlk (by decide) rfl hP hD hS dX3_hasPlayer_17
    · have hu := hu.trans (if_neg c_9)
      refine lv_iconst (v := 1) hx hb dX3_hasPlayer_12 (by decide) ?_
      refine lv_goto (tgt := 17) hx hb dX3_hasPlayer_13 (by decide) ?_
      subst hu
      exact hg_rz hx hb hr hlk (by decide) rfl hP hD hS dX3_hasPlayer_17

set_option maxHeartbeats 4000000 in
set_option maxRecDepth 100000 in
theorem c_X3_hasBar (l : Launch) (dC : Nat → ClassId) (dI : Nat → Nat → Nat) (cI cZ cM : ClassId) (sz : Nat) (t_h : Nat) (x0 : Int32) (t_players : Int32) (t_bars : Int32) (t_prices : Nat) (t_winds : Nat) (t_kinds : Nat) (t_looks : Nat) (t_noises : Nat) (t_repeats : Nat) (u : Int32) (hu : u = f_X3_hasBar x0 t_bars) : Met l yX3_hasBar wsX3_hasBar { frames := 0, cells := 0, slots := 0, locals := 0 } (hgPc [.ref t_h, .int x0] (dC, dI) cI cZ cM [(t_h, .inr (3, [.int t_players, .int t_bars, .ref t_prices, .ref t_winds, .ref t_kinds, .ref t_looks, .ref t_noises, .ref t_repeats]))] sz) (hgQi (dC, dI) u [(t_h, .inr (3, [.int t_players, .int t_bars, .ref t_prices, .ref t_winds, .ref t_kinds, .ref t_looks, .ref t_noises, .ref t_repeats]))] (va_A [(t_h, .inr (3, [.int t_players, .int t_bars, .ref t_prices, .ref t_winds, .ref t_kinds, .ref t_looks, .ref t_noises, .ref t_repeats]))] sz)) 0 0 (va_A [(t_h, .inr (3, [.int t_players, .int t_bars, .ref t_prices, .ref t_winds, .ref t_kinds, .ref t_looks, .ref t_noises, .ref t_repeats]))] sz) := by
  refine hg_ofW (cc := cX3_hasBar) (maxL := 2) (ret := (some .boolean)) (own := RX3) (fun A => hgQi (dC, dI) u [(t_h, .inr (3, [.int t_players, .int t_bars, .ref t_prices, .ref t_winds, .ref t_kinds, .ref t_looks, .ref t_noises, .ref t_repeats]))] A) rfl (by decide) rfl (Nat.le_of_ble_eq_true rfl) ?_
  intro p e s m below meth c ls A hsz hx hb hr hml hown hts hlk hnm hK hN hA hP hD hS hl
  subst hsz
  have w1 := hts (.fieldLink RX3 34 "HatGoesRound$Told" "bars" "I") (List.mem_of_getElem? (i := 1) rfl)
  have hinX3 : ∀ w ∈ u_ws RX3 TX3 8, w ∈ wsX3_hasBar := fun _ h => List.mem_cons_of_mem _ (List.mem_append_right _ h)
  have hl : lv_has ls 2 [(0, .ref t_h), (1, .int x0)] := hl
  unfold f_X3_hasBar at hu
  refine lv_iload_n hx hb dX3_hasBar_0 rfl (lv_at hl 1 rfl) ?_
  refine lv_if_lt (tgt := 16) hx hb dX3_hasBar_1 (by decide) (fun c_1 => ?_) (fun c_1 => ?_)
  · have hu := hu.trans (if_pos c_1)
    refine lv_iconst (v := 0) hx hb dX3_hasBar_16 (by decide) ?_
    subst hu
    exact hg_rz hx hb hr hlk (by decide) rfl hP hD hS dX3_hasBar_17
  · have hu := hu.trans (if_neg c_1)
    refine lv_iload_n hx hb dX3_hasBar_4 rfl (lv_at hl 1 rfl) ?_
    refine lv_aload_n hx hb dX3_hasBar_5 rfl (lv_at hl 0 rfl) ?_
    refine va_get (D := (dC, dI)) (ci := 3) (v := .int t_bars) (C := RX3) (T := TX3) (N := 8) hx hb hts hinX3 hown hK hP 0 rfl rfl 1 (by decide) w1 (fun _ h9 => h9) rfl dX3_hasBar_6 ?_
    refine lv_icmp_ge (tgt := 16) hx hb dX3_hasBar_9 (by decide) (fun c_9 => ?_) (fun c_9 => ?_)
    · have hu := hu.trans (if_pos c_9)
      refine lv_iconst (v := 0) hx hb dX3_hasBar_16 (by decide) ?_
      subst hu
      exact hg_rz hx hb hr hlk (by decide) rfl hP hD hS dX3_hasBar_17
    · have hu := hu.trans (if_neg c_9)
      refine lv_iconst (v := 1) hx hb dX3_hasBar_12 (by decide) ?_
      refine lv_goto (tgt := 17) hx hb dX3_hasBar_13 (by decide) ?_
      subst hu
      exact hg_rz hx hb hr hlk (by decide) rfl hP hD hS dX3_hasBar_17

set_option maxHeartbeats 4000000 in
set_option maxRecDepth 100000 in
theorem c_X3_everybody (l : Launch) (dC : Nat → ClassId) (dI : Nat → Nat → Nat) (cI cZ cM : ClassId) (sz : Nat) (t_h : Nat) (t_players : Int32) (t_bars : Int32) (t_prices : Nat) (t_winds : Nat) (t_kinds : Nat) (t_looks : Nat) (t_noises : Nat) (t_repeats : Nat) (u : Int32) (hu : u = f_X3_everybody t_players) : Met l yX3_everybody wsX3_everybody { frames := 0, cells := 0, slots := 0, locals := 0 } (hgPc [.ref t_h] (dC, dI) cI cZ cM [(t_h, .inr (3, [.int t_players, .int t_bars, .ref t_prices, .ref t_winds, .ref t_kinds, .ref t_looks, .ref t_noises, .ref t_repeats]))] sz) (hgQi (dC, dI) u [(t_h, .inr (3, [.int t_players, .int t_bars, .ref t_prices, .ref t_winds, .ref t_kinds, .ref t_looks, .ref t_noises, .ref t_repeats]))] (va_A [(t_h, .inr (3, [.int t_players, .int t_bars, .ref t_prices, .ref t_winds, .ref t_kinds, .ref t_looks, .ref t_noises, .ref t_repeats]))] sz)) 0 0 (va_A [(t_h, .inr (3, [.int t_players, .int t_bars, .ref t_prices, .ref t_winds, .ref t_kinds, .ref t_looks, .ref t_noises, .ref t_repeats]))] sz) := by
  refine hg_ofW (cc := cX3_everybody) (maxL := 1) (ret := (some .int)) (own := RX3) (fun A => hgQi (dC, dI) u [(t_h, .inr (3, [.int t_players, .int t_bars, .ref t_prices, .ref t_winds, .ref t_kinds, .ref t_looks, .ref t_noises, .ref t_repeats]))] A) rfl (by decide) rfl (Nat.le_of_ble_eq_true rfl) ?_
  intro p e s m below meth c ls A hsz hx hb hr hml hown hts hlk hnm hK hN hA hP hD hS hl
  subst hsz
  have w1 := hts (.fieldLink RX3 30 "HatGoesRound$Told" "players" "I") (List.mem_of_getElem? (i := 1) rfl)
  have hinX3 : ∀ w ∈ u_ws RX3 TX3 8, w ∈ wsX3_everybody := fun _ h => List.mem_cons_of_mem _ (List.mem_append_right _ h)
  have hl : lv_has ls 1 [(0, .ref t_h)] := hl
  unfold f_X3_everybody at hu
  refine lv_iconst (v := 1) hx hb dX3_everybody_0 (by decide) ?_
  refine lv_aload_n hx hb dX3_everybody_1 rfl (lv_at hl 0 rfl) ?_
  refine va_get (D := (dC, dI)) (ci := 3) (v := .int t_players) (C := RX3) (T := TX3) (N := 8) hx hb hts hinX3 hown hK hP 0 rfl rfl 0 (by decide) w1 (fun _ h9 => h9) rfl dX3_everybody_2 ?_
  refine lv_ishl hx hb dX3_everybody_5 ?_
  refine lv_iconst (v := 1) hx hb dX3_everybody_6 (by decide) ?_
  refine lv_isub hx hb dX3_everybody_7 ?_
  subst hu
  exact hg_ri hx hb hr hlk rfl hP hD hS dX3_everybody_8

set_option maxHeartbeats 4000000 in
set_option maxRecDepth 100000 in
theorem c_X3_priceOf (l : Launch) (dC : Nat → ClassId) (dI : Nat → Nat → Nat) (cI cZ cM : ClassId) (sz : Nat) (t_h : Nat) (x0 : Int32) (t_players : Int32) (t_bars : Int32) (t_prices : Nat) (t_winds : Nat) (t_kinds : Nat) (t_looks : Nat) (t_noises : Nat) (t_repeats : Nat) (t_prices_v : Nat → Int32) (u : Int32) (hu : u = f_X3_priceOf x0 t_players t_prices_v) : Met l yX3_priceOf wsX3_priceOf { frames := 1, cells := 0, slots := 0, locals := 21 } (hgPc [.ref t_h, .int x0] (dC, dI) cI cZ cM [(t_h, .inr (3, [.int t_players, .int t_bars, .ref t_prices, .ref t_winds, .ref t_kinds, .ref t_looks, .ref t_noises, .ref t_repeats])), (t_prices, .inl (cI, 6, .inl t_prices_v))] sz) (hgQi (dC, dI) u [(t_h, .inr (3, [.int t_players, .int t_bars, .ref t_prices, .ref t_winds, .ref t_kinds, .ref t_looks, .ref t_noises, .ref t_repeats])), (t_prices, .inl (cI, 6, .inl t_prices_v))] (va_A [(t_h, .inr (3, [.int t_players, .int t_bars, .ref t_prices, .ref t_winds, .ref t_kinds, .ref t_looks, .ref t_noises, .ref t_repeats])), (t_prices, .inl (cI, 6, .inl t_prices_v))] sz)) 0 0 (va_A [(t_h, .inr (3, [.int t_players, .int t_bars, .ref t_prices, .ref t_winds, .ref t_kinds, .ref t_looks, .ref t_noises, .ref t_repeats])), (t_prices, .inl (cI, 6, .inl t_prices_v))] sz) := by
  refine hg_ofW (cc := cX3_priceOf) (maxL := 4) (ret := (some .int)) (own := RX3) (fun A => hgQi (dC, dI) u [(t_h, .inr (3, [.int t_players, .int t_bars, .ref t_prices, .ref t_winds, .ref t_kinds, .ref t_looks, .ref t_noises, .ref t_repeats])), (t_prices, .inl (cI, 6, .inl t_prices_v))] A) rfl (by decide) rfl (Nat.le_of_ble_eq_true rfl) ?_
  intro p e s m below meth c ls A hsz hx hb hr hml hown hts hlk hnm hK hN hA hP hD hS hl
  subst hsz
  have w1 := hts (.fieldLink RX3 30 "HatGoesRound$Told" "players" "I") (List.mem_of_getElem? (i := 1) rfl)
  have hinX3 : ∀ w ∈ u_ws RX3 TX3 8, w ∈ wsX3_priceOf := fun _ h => List.mem_cons_of_mem _ (List.mem_append_right _ h)
  have w2 := hts (.fieldLink RX3 9 "HatGoesRound$Told" "prices" "[I") (List.mem_of_getElem? (i := 2) rfl)
  have w4 := hts (.initialized RX4) (List.mem_of_getElem? (i := 4) rfl)
  have w3 := hts (.static yX4_at) (List.mem_of_getElem? (i := 3) rfl)
  have hl : lv_has ls 4 [(0, .ref t_h), (1, .int x0)] := hl
  unfold f_X3_priceOf at hu
  refine lv_iconst (v := 0) hx hb dX3_priceOf_0 (by decide) ?_
  refine lv_istore_n (lv' := [(2, .int 0), (0, .ref t_h), (1, .int x0)]) hx hb dX3_priceOf_1 rfl hl (by decide) rfl (fun ls hl => ?_)
  refine lv_iconst (v := 0) hx hb dX3_priceOf_2 (by decide) ?_
  refine lv_istore_n (lv' := [(3, .int 0), (2, .int 0), (0, .ref t_h), (1, .int x0)]) hx hb dX3_priceOf_3 rfl hl (by decide) rfl (fun ls hl => ?_)
  obtain ⟨r2, er2, hu⟩ := lxb_o hu
  refine hg_loopF (T := Int32) (N := (itn 0 t_players)) (fun v4 => [(t_h, .inr (3, [.int t_players, .int t_bars, .ref t_prices, .ref t_winds, .ref t_kinds, .ref t_looks, .ref t_noises, .ref t_repeats])), (t_prices, .inl (cI, 6, .inl t_prices_v))]) (fun k4 v4 => [(0, .ref t_h), (1, .int x0), (2, .int v4), (3, .int (nI k4))]) (fun k4 => l_X3_priceOf_4 x0 t_prices_v 0 k4) ?_ ?_ hP hD hS (lv_sub hl [2, 3, 1, 0] rfl)
  · intro v4 hv H locs ls hP hD hS hl
    obtain rfl : r2 = v4 := er2.trans hv.symm
    have hP : va_P (dC, dI) vwCl [(t_h, .inr (3, [.int t_players, .int t_bars, .ref t_prices, .ref t_winds, .ref t_kinds, .ref t_looks, .ref t_noises, .ref t_repeats])), (t_prices, .inl (cI, 6, .inl t_prices_v))] H := hP
    have hD : va_D A [(t_h, .inr (3, [.int t_players, .int t_bars, .ref t_prices, .ref t_winds, .ref t_kinds, .ref t_looks, .ref t_noises, .ref t_repeats])), (t_prices, .inl (cI, 6, .inl t_prices_v))] := hD
    have hl : lv_has ls 4 [(0, .ref t_h), (1, .int x0), (2, .int r2), (3, .int (nI (itn 0 t_players)))] := hl
    refine lv_iload_n hx hb dX3_priceOf_4 rfl (lv_at hl 3 rfl) ?_
    refine lv_aload_n hx hb dX3_priceOf_5 rfl (lv_at hl 0 rfl) ?_
    refine va_get (D := (dC, dI)) (ci := 3) (v := .int t_players) (C := RX3) (T := TX3) (N := 8) hx hb hts hinX3 hown hK hP 0 rfl rfl 0 (by decide) w1 (fun _ h9 => h9) rfl dX3_priceOf_6 ?_
    refine lv_icmp_ge (tgt := 38) hx hb dX3_priceOf_9 (by decide) (fun c_9 => ?_) (fun c_9 => absurd hg_lo0 c_9)
    refine lv_iload_n hx hb dX3_priceOf_38 rfl (lv_at hl 2 rfl) ?_
    subst hu
    exact hg_ri hx hb hr hlk rfl hP hD hS dX3_priceOf_39
  · intro k4 hk v4 hv w hw ih H locs ls hP hD hS hl
    have hw : w = b_X3_priceOf_4 x0 t_prices_v k4 v4 := by rw [hw, hv]; rfl
    unfold b_X3_priceOf_4 at hw
    have hP : va_P (dC, dI) vwCl [(t_h, .inr (3, [.int t_players, .int t_bars, .ref t_prices, .ref t_winds, .ref t_kinds, .ref t_looks, .ref t_noises, .ref t_repeats])), (t_prices, .inl (cI, 6, .inl t_prices_v))] H := hP
    have hD : va_D A [(t_h, .inr (3, [.int t_players, .int t_bars, .ref t_prices, .ref t_winds, .ref t_kinds, .ref t_looks, .ref t_noises, .ref t_repeats])), (t_prices, .inl (cI, 6, .inl t_prices_v))] := hD
    have hl : lv_has ls 4 [(0, .ref t_h), (1, .int x0), (2, .int v4), (3, .int (nI k4))] := hl
    refine lv_iload_n hx hb dX3_priceOf_4 rfl (lv_at hl 3 rfl) ?_
    refine lv_aload_n hx hb dX3_priceOf_5 rfl (lv_at hl 0 rfl) ?_
    refine va_get (D := (dC, dI)) (ci := 3) (v := .int t_players) (C := RX3) (T := TX3) (N := 8) hx hb hts hinX3 hown hK hP 0 rfl rfl 0 (by decide) w1 (fun _ h9 => h9) rfl dX3_priceOf_6 ?_
    refine lv_icmp_ge (tgt := 38) hx hb dX3_priceOf_9 (by decide) (fun c_9 => absurd c_9 (hg_lo1 hk)) (fun c_9 => ?_)
    refine lv_iload_n hx hb dX3_priceOf_12 rfl (lv_at hl 1 rfl) ?_
    refine lv_iload_n hx hb dX3_priceOf_13 rfl (lv_at hl 3 rfl) ?_
    refine lv_ishr hx hb dX3_priceOf_14 ?_
    refine lv_iconst (v := 1) hx hb dX3_priceOf_15 (by decide) ?_
    refine lv_iand hx hb dX3_priceOf_16 ?_
    refine lv_iconst (v := 1) hx hb dX3_priceOf_17 (by decide) ?_
    refine lv_icmp_ne (tgt := 32) hx hb dX3_priceOf_18 (by decide) (fun c_18 => ?_) (fun c_18 => ?_)
    · have hw := hw.trans (if_neg c_18)
      refine lv_iinc (v := nI (k4 + 1)) (lv' := [(3, .int (nI (k4 + 1))), (0, .ref t_h), (1, .int x0), (2, .int v4)]) hx hb dX3_priceOf_32 hl (k := 3) rfl (nI_1 k4) (by decide) rfl (fun ls hl => ?_)
      refine lv_goto (tgt := 4) hx hb dX3_priceOf_35 (by decide) ?_
      subst hw
      exact ih _ _ _ hP hD hS (lv_sub hl [1, 2, 3, 0] rfl)
    · have hw := hw.trans (if_pos c_18)
      refine lv_iload_n hx hb dX3_priceOf_21 rfl (lv_at hl 2 rfl) ?_
      refine lv_aload_n hx hb dX3_priceOf_22 rfl (lv_at hl 0 rfl) ?_
      refine va_get (D := (dC, dI)) (ci := 3) (v := .ref t_prices) (C := RX3) (T := TX3) (N := 8) hx hb hts hinX3 hown hK hP 0 rfl rfl 2 (by decide) w2 (fun _ h9 => h9) rfl dX3_priceOf_23 ?_
      refine lv_iload_n hx hb dX3_priceOf_26 rfl (lv_at hl 3 rfl) ?_
      obtain ⟨r1, er1, hw⟩ := lxb_o hw
      refine hg_ci (va_runSN (As := [.ref t_prices, .int (nI k4)]) (rest := [.int v4]) ⟨hx, hb, hml, hown, hts⟩ (c_X4_at l dC dI cI cZ cM _ t_prices (nI k4) 6 t_prices_v (by decide) r1 er1) ⟨va_cnB 2 hts gX3_priceOf_X4_at_n37 rfl rfl rfl hN.1 w4 (by decide +kernel) ⟨Nat.le_of_ble_eq_true rfl, Nat.le_of_ble_eq_true rfl⟩, w3, trivial⟩ (hgPreS hP hD hK hN [1] rfl rfl) rfl rfl hl.1 rfl (lv_room (Nat.le_of_ble_eq_true rfl)) dX3_priceOf_27 ⟨Nat.zero_le _, Nat.zero_le _⟩) hP hD hS hA (wr := [(t_h, .inr (3, [.int t_players, .int t_bars, .ref t_prices, .ref t_winds, .ref t_kinds, .ref t_looks, .ref t_noises, .ref t_repeats]))]) (wf := [(t_h, .inr (3, [.int t_players, .int t_bars, .ref t_prices, .ref t_winds, .ref t_kinds, .ref t_looks, .ref t_noises, .ref t_repeats])), (t_prices, .inl (cI, 6, .inl t_prices_v))]) [1] [0] [0, 1] rfl rfl rfl (by decide) rfl rfl (fun H locs hP hD hS => ?_)
      refine lv_iadd hx hb dX3_priceOf_30 ?_
      refine lv_istore_n (lv' := [(2, .int (v4 + r1)), (0, .ref t_h), (1, .int x0), (3, .int (nI k4))]) hx hb dX3_priceOf_31 rfl hl (by decide) rfl (fun ls hl => ?_)
      refine lv_iinc (v := nI (k4 + 1)) (lv' := [(3, .int (nI (k4 + 1))), (2, .int (v4 + r1)), (0, .ref t_h), (1, .int x0)]) hx hb dX3_priceOf_32 hl (k := 3) rfl (nI_1 k4) (by decide) rfl (fun ls hl => ?_)
      refine lv_goto (tgt := 4) hx hb dX3_priceOf_35 (by decide) ?_
      subst hw
      exact ih _ _ _ hP hD hS (lv_sub hl [2, 3, 1, 0] rfl)

set_option maxHeartbeats 4000000 in
set_option maxRecDepth 100000 in
theorem c_X3_isCheaper (l : Launch) (dC : Nat → ClassId) (dI : Nat → Nat → Nat) (cI cZ cM : ClassId) (sz : Nat) (t_h : Nat) (x0 : Int32) (x1 : Int32) (t_players : Int32) (t_bars : Int32) (t_prices : Nat) (t_winds : Nat) (t_kinds : Nat) (t_looks : Nat) (t_noises : Nat) (t_repeats : Nat) (t_prices_v : Nat → Int32) (u : Int32) (hu : u = f_X3_isCheaper x0 x1 t_players t_prices_v) : Met l yX3_isCheaper wsX3_isCheaper { frames := 2, cells := 0, slots := 0, locals := 44 } (hgPc [.ref t_h, .int x0, .int x1] (dC, dI) cI cZ cM [(t_h, .inr (3, [.int t_players, .int t_bars, .ref t_prices, .ref t_winds, .ref t_kinds, .ref t_looks, .ref t_noises, .ref t_repeats])), (t_prices, .inl (cI, 6, .inl t_prices_v))] sz) (hgQi (dC, dI) u [(t_h, .inr (3, [.int t_players, .int t_bars, .ref t_prices, .ref t_winds, .ref t_kinds, .ref t_looks, .ref t_noises, .ref t_repeats])), (t_prices, .inl (cI, 6, .inl t_prices_v))] (va_A [(t_h, .inr (3, [.int t_players, .int t_bars, .ref t_prices, .ref t_winds, .ref t_kinds, .ref t_looks, .ref t_noises, .ref t_repeats])), (t_prices, .inl (cI, 6, .inl t_prices_v))] sz)) 0 0 (va_A [(t_h, .inr (3, [.int t_players, .int t_bars, .ref t_prices, .ref t_winds, .ref t_kinds, .ref t_looks, .ref t_noises, .ref t_repeats])), (t_prices, .inl (cI, 6, .inl t_prices_v))] sz) := by
  refine hg_ofW (cc := cX3_isCheaper) (maxL := 5) (ret := (some .boolean)) (own := RX3) (fun A => hgQi (dC, dI) u [(t_h, .inr (3, [.int t_players, .int t_bars, .ref t_prices, .ref t_winds, .ref t_kinds, .ref t_looks, .ref t_noises, .ref t_repeats])), (t_prices, .inl (cI, 6, .inl t_prices_v))] A) rfl (by decide) rfl (Nat.le_of_ble_eq_true rfl) ?_
  intro p e s m below meth c ls A hsz hx hb hr hml hown hts hlk hnm hK hN hA hP hD hS hl
  subst hsz
  have hl : lv_has ls 5 [(0, .ref t_h), (1, .int x0), (2, .int x1)] := hl
  unfold f_X3_isCheaper at hu
  refine lv_aload_n hx hb dX3_isCheaper_0 rfl (lv_at hl 0 rfl) ?_
  refine lv_iload_n hx hb dX3_isCheaper_1 rfl (lv_at hl 1 rfl) ?_
  obtain ⟨r1, er1, hu⟩ := lxb_o hu
  refine hg_ci (va_runV (As := [.int x0]) (rest := []) ⟨hx, hb, hml, hown, hts⟩ (c_X3_priceOf l dC dI cI cZ cM _ t_h x0 t_players t_bars t_prices t_winds t_kinds t_looks t_noises t_repeats t_prices_v r1 er1) (cwV 1 hts gX3_isCheaper_X3_priceOf rfl rfl rfl (by decide +kernel) ⟨Nat.le_of_ble_eq_true rfl, Nat.le_of_ble_eq_true rfl⟩) (hgPreV (C := RX3) (T := TX3) (N := 8) (ci := 3) (q0 := 0) hP hD hK hN [0, 1] rfl rfl rfl rfl) rfl rfl hl.1 rfl (lv_room (Nat.le_of_ble_eq_true rfl)) dX3_isCheaper_2 ⟨Nat.zero_le _, Nat.zero_le _⟩) hP hD hS hA (wr := []) (wf := [(t_h, .inr (3, [.int t_players, .int t_bars, .ref t_prices, .ref t_winds, .ref t_kinds, .ref t_looks, .ref t_noises, .ref t_repeats])), (t_prices, .inl (cI, 6, .inl t_prices_v))]) [0, 1] [] [0, 1] rfl rfl rfl (by decide) rfl rfl (fun H locs hP hD hS => ?_)
  refine lv_aload_n hx hb dX3_isCheaper_5 rfl (lv_at hl 0 rfl) ?_
  refine lv_iload_n hx hb dX3_isCheaper_6 rfl (lv_at hl 2 rfl) ?_
  obtain ⟨r2, er2, hu⟩ := lxb_o hu
  refine hg_ci (va_runV (As := [.int x1]) (rest := [.int r1]) ⟨hx, hb, hml, hown, hts⟩ (c_X3_priceOf l dC dI cI cZ cM _ t_h x1 t_players t_bars t_prices t_winds t_kinds t_looks t_noises t_repeats t_prices_v r2 er2) (cwV 1 hts gX3_isCheaper_X3_priceOf rfl rfl rfl (by decide +kernel) ⟨Nat.le_of_ble_eq_true rfl, Nat.le_of_ble_eq_true rfl⟩) (hgPreV (C := RX3) (T := TX3) (N := 8) (ci := 3) (q0 := 0) hP hD hK hN [0, 1] rfl rfl rfl rfl) rfl rfl hl.1 rfl (lv_room (Nat.le_of_ble_eq_true rfl)) dX3_isCheaper_7 ⟨Nat.zero_le _, Nat.zero_le _⟩) hP hD hS hA (wr := []) (wf := [(t_h, .inr (3, [.int t_players, .int t_bars, .ref t_prices, .ref t_winds, .ref t_kinds, .ref t_looks, .ref t_noises, .ref t_repeats])), (t_prices, .inl (cI, 6, .inl t_prices_v))]) [0, 1] [] [0, 1] rfl rfl rfl (by decide) rfl rfl (fun H locs hP hD hS => ?_)
  obtain ⟨r3, er3, hu⟩ := lxb_o hu
  refine hg_ci (va_runS (As := [.int r1, .int r2]) (rest := []) ⟨hx, hb, hml, hown, hts⟩ (c_J6_compare l dC dI cI cZ cM _ r1 r2 r3 er3) (va_cwS 2 hts gX3_isCheaper_J6_compare_7cf53 rfl rfl rfl (by decide +kernel) ⟨Nat.le_of_ble_eq_true rfl, Nat.le_of_ble_eq_true rfl⟩) (hgPreS hP hD hK hN [] rfl rfl) rfl rfl hl.1 rfl (lv_room (Nat.le_of_ble_eq_true rfl)) dX3_isCheaper_10 ⟨Nat.zero_le _, Nat.zero_le _⟩) hP hD hS hA (wr := [(t_h, .inr (3, [.int t_players, .int t_bars, .ref t_prices, .ref t_winds, .ref t_kinds, .ref t_looks, .ref t_noises, .ref t_repeats])), (t_prices, .inl (cI, 6, .inl t_prices_v))]) (wf := [(t_h, .inr (3, [.int t_players, .int t_bars, .ref t_prices, .ref t_winds, .ref t_kinds, .ref t_looks, .ref t_noises, .ref t_repeats])), (t_prices, .inl (cI, 6, .inl t_prices_v))]) [] [0, 1] [0, 1] rfl rfl rfl (by decide) rfl rfl (fun H locs hP hD hS => ?_)
  refine lv_istore_n (lv' := [(3, .int r3), (0, .ref t_h), (1, .int x0), (2, .int x1)]) hx hb dX3_isCheaper_13 rfl hl (by decide) rfl (fun ls hl => ?_)
  refine lv_iload_n hx hb dX3_isCheaper_14 rfl (lv_at hl 2 rfl) ?_
  obtain ⟨r4, er4, hu⟩ := lxb_o hu
  refine hg_ci (va_runS (As := [.int x0]) (rest := []) ⟨hx, hb, hml, hown, hts⟩ (c_J6_bitCount l dC dI cI cZ cM _ x0 r4 er4) (va_cwS 1 hts gX3_isCheaper_J6_bitCount_0f7a4 rfl rfl rfl (by decide +kernel) ⟨Nat.le_of_ble_eq_true rfl, Nat.le_of_ble_eq_true rfl⟩) (hgPreS hP hD hK hN [] rfl rfl) rfl rfl hl.1 rfl (lv_room (Nat.le_of_ble_eq_true rfl)) dX3_isCheaper_15 ⟨Nat.zero_le _, Nat.zero_le _⟩) hP hD hS hA (wr := [(t_h, .inr (3, [.int t_players, .int t_bars, .ref t_prices, .ref t_winds, .ref t_kinds, .ref t_looks, .ref t_noises, .ref t_repeats])), (t_prices, .inl (cI, 6, .inl t_prices_v))]) (wf := [(t_h, .inr (3, [.int t_players, .int t_bars, .ref t_prices, .ref t_winds, .ref t_kinds, .ref t_looks, .ref t_noises, .ref t_repeats])), (t_prices, .inl (cI, 6, .inl t_prices_v))]) [] [0, 1] [0, 1] rfl rfl rfl (by decide) rfl rfl (fun H locs hP hD hS => ?_)
  refine lv_iload_n hx hb dX3_isCheaper_18 rfl (lv_at hl 3 rfl) ?_
  obtain ⟨r5, er5, hu⟩ := lxb_o hu
  refine hg_ci (va_runS (As := [.int x1]) (rest := [.int r4]) ⟨hx, hb, hml, hown, hts⟩ (c_J6_bitCount l dC dI cI cZ cM _ x1 r5 er5) (va_cwS 1 hts gX3_isCheaper_J6_bitCount_0f7a4 rfl rfl rfl (by decide +kernel) ⟨Nat.le_of_ble_eq_true rfl, Nat.le_of_ble_eq_true rfl⟩) (hgPreS hP hD hK hN [] rfl rfl) rfl rfl hl.1 rfl (lv_room (Nat.le_of_ble_eq_true rfl)) dX3_isCheaper_19 ⟨Nat.zero_le _, Nat.zero_le _⟩) hP hD hS hA (wr := [(t_h, .inr (3, [.int t_players, .int t_bars, .ref t_prices, .ref t_winds, .ref t_kinds, .ref t_looks, .ref t_noises, .ref t_repeats])), (t_prices, .inl (cI, 6, .inl t_prices_v))]) (wf := [(t_h, .inr (3, [.int t_players, .int t_bars, .ref t_prices, .ref t_winds, .ref t_kinds, .ref t_looks, .ref t_noises, .ref t_repeats])), (t_prices, .inl (cI, 6, .inl t_prices_v))]) [] [0, 1] [0, 1] rfl rfl rfl (by decide) rfl rfl (fun H locs hP hD hS => ?_)
  obtain ⟨r6, er6, hu⟩ := lxb_o hu
  refine hg_ci (va_runS (As := [.int r4, .int r5]) (rest := []) ⟨hx, hb, hml, hown, hts⟩ (c_J6_compare l dC dI cI cZ cM _ r4 r5 r6 er6) (va_cwS 2 hts gX3_isCheaper_J6_compare_7cf53 rfl rfl rfl (by decide +kernel) ⟨Nat.le_of_ble_eq_true rfl, Nat.le_of_ble_eq_true rfl⟩) (hgPreS hP hD hK hN [] rfl rfl) rfl rfl hl.1 rfl (lv_room (Nat.le_of_ble_eq_true rfl)) dX3_isCheaper_22 ⟨Nat.zero_le _, Nat.zero_le _⟩) hP hD hS hA (wr := [(t_h, .inr (3, [.int t_players, .int t_bars, .ref t_prices, .ref t_winds, .ref t_kinds, .ref t_looks, .ref t_noises, .ref t_repeats])), (t_prices, .inl (cI, 6, .inl t_prices_v))]) (wf := [(t_h, .inr (3, [.int t_players, .int t_bars, .ref t_prices, .ref t_winds, .ref t_kinds, .ref t_looks, .ref t_noises, .ref t_repeats])), (t_prices, .inl (cI, 6, .inl t_prices_v))]) [] [0, 1] [0, 1] rfl rfl rfl (by decide) rfl rfl (fun H locs hP hD hS => ?_)
  refine lv_istore (lv' := [(4, .int r6), (3, .int r3), (0, .ref t_h), (1, .int x0), (2, .int x1)]) hx hb dX3_isCheaper_25 hl (by decide) rfl (fun ls hl => ?_)
  refine lv_iload_n hx hb dX3_isCheaper_27 rfl (lv_at hl 1 rfl) ?_
  refine lv_if_eq (tgt := 43) hx hb dX3_isCheaper_28 (by decide) (fun c_28 => ?_) (fun c_28 => ?_)
  · have hu := hu.trans (if_pos c_28)
    refine lv_iload hx hb dX3_isCheaper_43 (lv_at hl 0 rfl) ?_
    refine lv_if_eq (tgt := 61) hx hb dX3_isCheaper_45 (by decide) (fun c_45 => ?_) (fun c_45 => ?_)
    · have hu := hu.trans (if_pos c_45)
      refine lv_iload_n hx hb dX3_isCheaper_61 rfl (lv_at hl 3 rfl) ?_
      refine lv_iload_n hx hb dX3_isCheaper_62 rfl (lv_at hl 4 rfl) ?_
      refine lv_icmp_ge (tgt := 70) hx hb dX3_isCheaper_63 (by decide) (fun c_63 => ?_) (fun c_63 => ?_)
      · have hu := hu.trans (if_pos c_63)
        refine lv_iconst (v := 0) hx hb dX3_isCheaper_70 (by decide) ?_
        subst hu
        exact hg_rz hx hb hr hlk (by decide) rfl hP hD hS dX3_isCheaper_71
      · have hu := hu.trans (if_neg c_63)
        refine lv_iconst (v := 1) hx hb dX3_isCheaper_66 (by decide) ?_
        refine lv_goto (tgt := 71) hx hb dX3_isCheaper_67 (by decide) ?_
        subst hu
        exact hg_rz hx hb hr hlk (by decide) rfl hP hD hS dX3_isCheaper_71
    · have hu := hu.trans (if_neg c_45)
      refine lv_iload hx hb dX3_isCheaper_48 (lv_at hl 0 rfl) ?_
      refine lv_if_ge (tgt := 57) hx hb dX3_isCheaper_50 (by decide) (fun c_50 => ?_) (fun c_50 => ?_)
      · have hu := hu.trans (if_pos c_50)
        refine lv_iconst (v := 0) hx hb dX3_isCheaper_57 (by decide) ?_
        refine lv_goto (tgt := 71) hx hb dX3_isCheaper_58 (by decide) ?_
        subst hu
        exact hg_rz hx hb hr hlk (by decide) rfl hP hD hS dX3_isCheaper_71
      · have hu := hu.trans (if_neg c_50)
        refine lv_iconst (v := 1) hx hb dX3_isCheaper_53 (by decide) ?_
        refine lv_goto (tgt := 71) hx hb dX3_isCheaper_54 (by decide) ?_
        subst hu
        exact hg_rz hx hb hr hlk (by decide) rfl hP hD hS dX3_isCheaper_71
  · have hu := hu.trans (if_neg c_28)
    refine lv_iload_n hx hb dX3_isCheaper_31 rfl (lv_at hl 1 rfl) ?_
    refine lv_if_ge (tgt := 39) hx hb dX3_isCheaper_32 (by decide) (fun c_32 => ?_) (fun c_32 => ?_)
    · have hu := hu.trans (if_pos c_32)
      refine lv_iconst (v := 0) hx hb dX3_isCheaper_39 (by decide) ?_
      refine lv_goto (tgt := 71) hx hb dX3_isCheaper_40 (by decide) ?_
      subst hu
      exact hg_rz hx hb hr hlk (by decide) rfl hP hD hS dX3_isCheaper_71
    · have hu := hu.trans (if_neg c_32)
      refine lv_iconst (v := 1) hx hb dX3_isCheaper_35 (by decide) ?_
      refine lv_goto (tgt := 71) hx hb dX3_isCheaper_36 (by decide) ?_
      subst hu
      exact hg_rz hx hb hr hlk (by decide) rfl hP hD hS dX3_isCheaper_71

set_option maxHeartbeats 4000000 in
set_option maxRecDepth 100000 in
theorem c_X3_takeWithin (l : Launch) (dC : Nat → ClassId) (dI : Nat → Nat → Nat) (cI cZ cM : ClassId) (sz : Nat) (t_h : Nat) (r0_h : Nat) (x1 : Int32) (x2 : Int32) (x3 : Int32) (x4 : Int32) (r0_n : Nat) (r0_v : Nat → Int32) (hn : r0_n < 2 ^ 31) (u : Int32 × (Nat → Int32)) (hu : u = f_X3_takeWithin x1 x2 x3 x4 r0_n r0_v) : Met l yX3_takeWithin wsX3_takeWithin { frames := 1, cells := 0, slots := 0, locals := 22 } (hgPc [.ref t_h, .ref r0_h, .int x1, .int x2, .int x3, .int x4] (dC, dI) cI cZ cM [(r0_h, .inl (cI, r0_n, .inl r0_v))] sz) (hgQi (dC, dI) u.1 [(r0_h, .inl (cI, r0_n, .inl u.2))] (va_A [(r0_h, .inl (cI, r0_n, .inl r0_v))] sz)) 0 0 (va_A [(r0_h, .inl (cI, r0_n, .inl r0_v))] sz) := by
  refine hg_ofW (cc := cX3_takeWithin) (maxL := 6) (ret := (some .boolean)) (own := RX3) (fun A => hgQi (dC, dI) u.1 [(r0_h, .inl (cI, r0_n, .inl u.2))] A) rfl (by decide) rfl (Nat.le_of_ble_eq_true rfl) ?_
  intro p e s m below meth c ls A hsz hx hb hr hml hown hts hlk hnm hK hN hA hP hD hS hl
  subst hsz
  have w2 := hts (.initialized RX4) (List.mem_of_getElem? (i := 2) rfl)
  have w1 := hts (.static yX4_put) (List.mem_of_getElem? (i := 1) rfl)
  have hl : lv_has ls 6 [(0, .ref t_h), (1, .ref r0_h), (2, .int x1), (3, .int x2), (4, .int x3), (5, .int x4)] := hl
  unfold f_X3_takeWithin at hu
  refine lv_iload_n hx hb dX3_takeWithin_0 rfl (lv_at hl 3 rfl) ?_
  refine lv_iload hx hb dX3_takeWithin_1 (lv_at hl 4 rfl) ?_
  refine lv_icmp_lt (tgt := 12) hx hb dX3_takeWithin_3 (by decide) (fun c_3 => ?_) (fun c_3 => ?_)
  · have hu := hu.trans (if_pos c_3)
    refine lv_iconst (v := 0) hx hb dX3_takeWithin_12 (by decide) ?_
    subst hu
    exact hg_rz hx hb hr hlk (by decide) rfl hP hD hS dX3_takeWithin_13
  · have hu := hu.trans (if_neg c_3)
    refine lv_iload_n hx hb dX3_takeWithin_6 rfl (lv_at hl 3 rfl) ?_
    refine lv_iload hx hb dX3_takeWithin_7 (lv_at hl 5 rfl) ?_
    refine lv_icmp_le (tgt := 14) hx hb dX3_takeWithin_9 (by decide) (fun c_9 => ?_) (fun c_9 => ?_)
    · have hu := hu.trans (if_pos c_9)
      refine lv_aload_n hx hb dX3_takeWithin_14 rfl (lv_at hl 1 rfl) ?_
      refine lv_iload_n hx hb dX3_takeWithin_15 rfl (lv_at hl 2 rfl) ?_
      refine lv_iload_n hx hb dX3_takeWithin_16 rfl (lv_at hl 3 rfl) ?_
      obtain ⟨r1, er1, hu⟩ := lxb_o hu
      refine hg_cv (va_runSN (As := [.ref r0_h, .int x1, .int x2]) (rest := []) ⟨hx, hb, hml, hown, hts⟩ (c_X4_put l dC dI cI cZ cM _ r0_h x1 x2 r0_n r0_v hn r1 er1) ⟨va_cnB 3 hts gX3_takeWithin_X4_put_n56 rfl rfl rfl hN.2.1 w2 (by decide +kernel) ⟨Nat.le_of_ble_eq_true rfl, Nat.le_of_ble_eq_true rfl⟩, w1, trivial⟩ (hgPreS hP hD hK hN [0] rfl rfl) rfl rfl hl.1 rfl (lv_room (Nat.le_of_ble_eq_true rfl)) dX3_takeWithin_17 ⟨Nat.zero_le _, Nat.zero_le _⟩) hP hD hS hA (wr := []) (wf := [(r0_h, .inl (cI, r0_n, .inl r1))]) [0] [] [0] rfl rfl rfl (by decide) rfl rfl (fun H locs hP hD hS => ?_)
      refine lv_iconst (v := 1) hx hb dX3_takeWithin_20 (by decide) ?_
      subst hu
      exact hg_rz hx hb hr hlk (by decide) rfl hP hD hS dX3_takeWithin_21
    · have hu := hu.trans (if_neg c_9)
      refine lv_iconst (v := 0) hx hb dX3_takeWithin_12 (by decide) ?_
      subst hu
      exact hg_rz hx hb hr hlk (by decide) rfl hP hD hS dX3_takeWithin_13

set_option maxHeartbeats 4000000 in
set_option maxRecDepth 100000 in
theorem c_X3_takeBarFigure (l : Launch) (dC : Nat → ClassId) (dI : Nat → Nat → Nat) (cI cZ cM : ClassId) (sz : Nat) (t_h : Nat) (x0 : Int32) (x1 : Int32) (t_players : Int32) (t_bars : Int32) (t_prices : Nat) (t_winds : Nat) (t_kinds : Nat) (t_looks : Nat) (t_noises : Nat) (t_repeats : Nat) (t_repeats_v : Nat → Int32) (t_noises_v : Nat → Int32) (u : Int32 × (Nat → Int32) × (Nat → Int32)) (hu : u = f_X3_takeBarFigure x0 x1 t_bars t_repeats_v t_noises_v) : Met l yX3_takeBarFigure wsX3_takeBarFigure { frames := 2, cells := 0, slots := 0, locals := 47 } (hgPc [.ref t_h, .int x0, .int x1] (dC, dI) cI cZ cM [(t_h, .inr (3, [.int t_players, .int t_bars, .ref t_prices, .ref t_winds, .ref t_kinds, .ref t_looks, .ref t_noises, .ref t_repeats])), (t_repeats, .inl (cI, 8, .inl t_repeats_v)), (t_noises, .inl (cI, 8, .inl t_noises_v))] sz) (hgQi (dC, dI) u.1 [(t_h, .inr (3, [.int t_players, .int t_bars, .ref t_prices, .ref t_winds, .ref t_kinds, .ref t_looks, .ref t_noises, .ref t_repeats])), (t_repeats, .inl (cI, 8, .inl u.2.1)), (t_noises, .inl (cI, 8, .inl u.2.2))] (va_A [(t_h, .inr (3, [.int t_players, .int t_bars, .ref t_prices, .ref t_winds, .ref t_kinds, .ref t_looks, .ref t_noises, .ref t_repeats])), (t_repeats, .inl (cI, 8, .inl t_repeats_v)), (t_noises, .inl (cI, 8, .inl t_noises_v))] sz)) 0 0 (va_A [(t_h, .inr (3, [.int t_players, .int t_bars, .ref t_prices, .ref t_winds, .ref t_kinds, .ref t_looks, .ref t_noises, .ref t_repeats])), (t_repeats, .inl (cI, 8, .inl t_repeats_v)), (t_noises, .inl (cI, 8, .inl t_noises_v))] sz) := by
  refine hg_ofW (cc := cX3_takeBarFigure) (maxL := 4) (ret := (some .boolean)) (own := RX3) (fun A => hgQi (dC, dI) u.1 [(t_h, .inr (3, [.int t_players, .int t_bars, .ref t_prices, .ref t_winds, .ref t_kinds, .ref t_looks, .ref t_noises, .ref t_repeats])), (t_repeats, .inl (cI, 8, .inl u.2.1)), (t_noises, .inl (cI, 8, .inl u.2.2))] A) rfl (by decide) rfl (Nat.le_of_ble_eq_true rfl) ?_
  intro p e s m below meth c ls A hsz hx hb hr hml hown hts hlk hnm hK hN hA hP hD hS hl
  subst hsz
  have w1 := hts (.fieldLink RX3 34 "HatGoesRound$Told" "bars" "I") (List.mem_of_getElem? (i := 1) rfl)
  have hinX3 : ∀ w ∈ u_ws RX3 TX3 8, w ∈ wsX3_takeBarFigure := fun _ h => List.mem_cons_of_mem _ (List.mem_append_right _ h)
  have w3 := hts (.fieldLink RX3 27 "HatGoesRound$Told" "repeats" "[I") (List.mem_of_getElem? (i := 3) rfl)
  have w2 := hts (.fieldLink RX3 24 "HatGoesRound$Told" "noises" "[I") (List.mem_of_getElem? (i := 2) rfl)
  have hl : lv_has ls 4 [(0, .ref t_h), (1, .int x0), (2, .int x1)] := hl
  unfold f_X3_takeBarFigure at hu
  refine lv_aload_n hx hb dX3_takeBarFigure_0 rfl (lv_at hl 0 rfl) ?_
  refine va_get (D := (dC, dI)) (ci := 3) (v := .int t_bars) (C := RX3) (T := TX3) (N := 8) hx hb hts hinX3 hown hK hP 0 rfl rfl 1 (by decide) w1 (fun _ h9 => h9) rfl dX3_takeBarFigure_1 ?_
  refine lv_iconst (v := 1) hx hb dX3_takeBarFigure_4 (by decide) ?_
  refine lv_isub hx hb dX3_takeBarFigure_5 ?_
  refine lv_istore_n (lv' := [(3, .int (t_bars - 1)), (0, .ref t_h), (1, .int x0), (2, .int x1)]) hx hb dX3_takeBarFigure_6 rfl hl (by decide) rfl (fun ls hl => ?_)
  refine lv_iload_n hx hb dX3_takeBarFigure_7 rfl (lv_at hl 2 rfl) ?_
  by_cases c_8_1 : x0 = 1
  · have hu := hu.trans (if_pos c_8_1)
    refine lv_lookup (off := 42) (tgt := 50) hx hb dX3_takeBarFigure_8 (by decide) (by rw [c_8_1]; rfl) (by decide) ?_
    refine lv_aload_n hx hb dX3_takeBarFigure_50 rfl (lv_at hl 1 rfl) ?_
    refine lv_aload_n hx hb dX3_takeBarFigure_51 rfl (lv_at hl 1 rfl) ?_
    refine va_get (D := (dC, dI)) (ci := 3) (v := .ref t_repeats) (C := RX3) (T := TX3) (N := 8) hx hb hts hinX3 hown hK hP 0 rfl rfl 7 (by decide) w3 (fun _ h9 => h9) rfl dX3_takeBarFigure_52 ?_
    refine lv_iload_n hx hb dX3_takeBarFigure_55 rfl (lv_at hl 0 rfl) ?_
    refine lv_iload_n hx hb dX3_takeBarFigure_56 rfl (lv_at hl 3 rfl) ?_
    refine lv_iconst (v := 0) hx hb dX3_takeBarFigure_57 (by decide) ?_
    refine lv_bipush (v := 7) hx hb dX3_takeBarFigure_58 (by decide) ?_
    obtain ⟨r1, er1, hu⟩ := lxb_o hu
    refine hg_ci (va_runV (As := [.ref t_repeats, .int (t_bars - 1), .int x1, .int 0, .int 7]) (rest := []) ⟨hx, hb, hml, hown, hts⟩ (c_X3_takeWithin l dC dI cI cZ cM _ t_h t_repeats (t_bars - 1) x1 0 7 8 t_repeats_v (by decide) r1 er1) (cwV 5 hts gX3_takeBarFigure_X3_takeWithin rfl rfl rfl (by decide +kernel) ⟨Nat.le_of_ble_eq_true rfl, Nat.le_of_ble_eq_true rfl⟩) (hgPreV (C := RX3) (T := TX3) (N := 8) (ci := 3) (q0 := 0) hP hD hK hN [1] rfl rfl rfl rfl) rfl rfl hl.1 rfl (lv_room (Nat.le_of_ble_eq_true rfl)) dX3_takeBarFigure_60 ⟨Nat.zero_le _, Nat.zero_le _⟩) hP hD hS hA (wr := [(t_h, .inr (3, [.int t_players, .int t_bars, .ref t_prices, .ref t_winds, .ref t_kinds, .ref t_looks, .ref t_noises, .ref t_repeats])), (t_noises, .inl (cI, 8, .inl t_noises_v))]) (wf := [(t_h, .inr (3, [.int t_players, .int t_bars, .ref t_prices, .ref t_winds, .ref t_kinds, .ref t_looks, .ref t_noises, .ref t_repeats])), (t_repeats, .inl (cI, 8, .inl r1.2)), (t_noises, .inl (cI, 8, .inl t_noises_v))]) [1] [0, 2] [0, 2, 1] rfl rfl rfl (by decide) rfl rfl (fun H locs hP hD hS => ?_)
    subst hu
    exact hg_rz hx hb hr hlk (z_X3_takeWithin er1) rfl hP hD hS dX3_takeBarFigure_63
  · have hu := hu.trans (if_neg c_8_1)
    by_cases c_8_2 : x0 = 2
    · have hu := hu.trans (if_pos c_8_2)
      refine lv_lookup (off := 28) (tgt := 36) hx hb dX3_takeBarFigure_8 (by decide) (by rw [c_8_2]; rfl) (by decide) ?_
      refine lv_aload_n hx hb dX3_takeBarFigure_36 rfl (lv_at hl 1 rfl) ?_
      refine lv_aload_n hx hb dX3_takeBarFigure_37 rfl (lv_at hl 1 rfl) ?_
      refine va_get (D := (dC, dI)) (ci := 3) (v := .ref t_noises) (C := RX3) (T := TX3) (N := 8) hx hb hts hinX3 hown hK hP 0 rfl rfl 6 (by decide) w2 (fun _ h9 => h9) rfl dX3_takeBarFigure_38 ?_
      refine lv_iload_n hx hb dX3_takeBarFigure_41 rfl (lv_at hl 0 rfl) ?_
      refine lv_iload_n hx hb dX3_takeBarFigure_42 rfl (lv_at hl 3 rfl) ?_
      refine lv_iconst (v := 0) hx hb dX3_takeBarFigure_43 (by decide) ?_
      refine lv_bipush (v := 9) hx hb dX3_takeBarFigure_44 (by decide) ?_
      obtain ⟨r2, er2, hu⟩ := lxb_o hu
      refine hg_ci (va_runV (As := [.ref t_noises, .int (t_bars - 1), .int x1, .int 0, .int 9]) (rest := []) ⟨hx, hb, hml, hown, hts⟩ (c_X3_takeWithin l dC dI cI cZ cM _ t_h t_noises (t_bars - 1) x1 0 9 8 t_noises_v (by decide) r2 er2) (cwV 5 hts gX3_takeBarFigure_X3_takeWithin rfl rfl rfl (by decide +kernel) ⟨Nat.le_of_ble_eq_true rfl, Nat.le_of_ble_eq_true rfl⟩) (hgPreV (C := RX3) (T := TX3) (N := 8) (ci := 3) (q0 := 0) hP hD hK hN [2] rfl rfl rfl rfl) rfl rfl hl.1 rfl (lv_room (Nat.le_of_ble_eq_true rfl)) dX3_takeBarFigure_46 ⟨Nat.zero_le _, Nat.zero_le _⟩) hP hD hS hA (wr := [(t_h, .inr (3, [.int t_players, .int t_bars, .ref t_prices, .ref t_winds, .ref t_kinds, .ref t_looks, .ref t_noises, .ref t_repeats])), (t_repeats, .inl (cI, 8, .inl t_repeats_v))]) (wf := [(t_h, .inr (3, [.int t_players, .int t_bars, .ref t_prices, .ref t_winds, .ref t_kinds, .ref t_looks, .ref t_noises, .ref t_repeats])), (t_repeats, .inl (cI, 8, .inl t_repeats_v)), (t_noises, .inl (cI, 8, .inl r2.2))]) [2] [0, 1] [0, 1, 2] rfl rfl rfl (by decide) rfl rfl (fun H locs hP hD hS => ?_)
      subst hu
      exact hg_rz hx hb hr hlk (z_X3_takeWithin er2) rfl hP hD hS dX3_takeBarFigure_49
    · have hu := hu.trans (if_neg c_8_2)
      refine lv_lookup (off := 56) (tgt := 64) hx hb dX3_takeBarFigure_8 (by decide) (show (if (1 : Int) = x0.toInt then (42 : Int) else if (2 : Int) = x0.toInt then 28 else 56) = 56 from (if_neg (show ¬ (1 : Int) = x0.toInt from hg_tne 1 (by decide) c_8_1)).trans (if_neg (show ¬ (2 : Int) = x0.toInt from hg_tne 2 (by decide) c_8_2))) (by decide) ?_
      refine lv_iconst (v := 0) hx hb dX3_takeBarFigure_64 (by decide) ?_
      subst hu
      exact hg_rz hx hb hr hlk (by decide) rfl hP hD hS dX3_takeBarFigure_65

set_option maxHeartbeats 4000000 in
set_option maxRecDepth 100000 in
theorem c_X3_takePlayerFigure (l : Launch) (dC : Nat → ClassId) (dI : Nat → Nat → Nat) (cI cZ cM : ClassId) (sz : Nat) (t_h : Nat) (x0 : Int32) (x1 : Int32) (t_players : Int32) (t_bars : Int32) (t_prices : Nat) (t_winds : Nat) (t_kinds : Nat) (t_looks : Nat) (t_noises : Nat) (t_repeats : Nat) (t_looks_v : Nat → Int32) (t_kinds_v : Nat → Int32) (t_winds_v : Nat → Int32) (t_prices_v : Nat → Int32) (u : Int32 × (Nat → Int32) × (Nat → Int32) × (Nat → Int32) × (Nat → Int32)) (hu : u = f_X3_takePlayerFigure x0 x1 t_players t_looks_v t_kinds_v t_winds_v t_prices_v) : Met l yX3_takePlayerFigure wsX3_takePlayerFigure { frames := 2, cells := 0, slots := 0, locals := 47 } (hgPc [.ref t_h, .int x0, .int x1] (dC, dI) cI cZ cM [(t_h, .inr (3, [.int t_players, .int t_bars, .ref t_prices, .ref t_winds, .ref t_kinds, .ref t_looks, .ref t_noises, .ref t_repeats])), (t_looks, .inl (cI, 6, .inl t_looks_v)), (t_kinds, .inl (cI, 6, .inl t_kinds_v)), (t_winds, .inl (cI, 6, .inl t_winds_v)), (t_prices, .inl (cI, 6, .inl t_prices_v))] sz) (hgQi (dC, dI) u.1 [(t_h, .inr (3, [.int t_players, .int t_bars, .ref t_prices, .ref t_winds, .ref t_kinds, .ref t_looks, .ref t_noises, .ref t_repeats])), (t_looks, .inl (cI, 6, .inl u.2.1)), (t_kinds, .inl (cI, 6, .inl u.2.2.1)), (t_winds, .inl (cI, 6, .inl u.2.2.2.1)), (t_prices, .inl (cI, 6, .inl u.2.2.2.2))] (va_A [(t_h, .inr (3, [.int t_players, .int t_bars, .ref t_prices, .ref t_winds, .ref t_kinds, .ref t_looks, .ref t_noises, .ref t_repeats])), (t_looks, .inl (cI, 6, .inl t_looks_v)), (t_kinds, .inl (cI, 6, .inl t_kinds_v)), (t_winds, .inl (cI, 6, .inl t_winds_v)), (t_prices, .inl (cI, 6, .inl t_prices_v))] sz)) 0 0 (va_A [(t_h, .inr (3, [.int t_players, .int t_bars, .ref t_prices, .ref t_winds, .ref t_kinds, .ref t_looks, .ref t_noises, .ref t_repeats])), (t_looks, .inl (cI, 6, .inl t_looks_v)), (t_kinds, .inl (cI, 6, .inl t_kinds_v)), (t_winds, .inl (cI, 6, .inl t_winds_v)), (t_prices, .inl (cI, 6, .inl t_prices_v))] sz) := by
  refine hg_ofW (cc := cX3_takePlayerFigure) (maxL := 4) (ret := (some .boolean)) (own := RX3) (fun A => hgQi (dC, dI) u.1 [(t_h, .inr (3, [.int t_players, .int t_bars, .ref t_prices, .ref t_winds, .ref t_kinds, .ref t_looks, .ref t_noises, .ref t_repeats])), (t_looks, .inl (cI, 6, .inl u.2.1)), (t_kinds, .inl (cI, 6, .inl u.2.2.1)), (t_winds, .inl (cI, 6, .inl u.2.2.2.1)), (t_prices, .inl (cI, 6, .inl u.2.2.2.2))] A) rfl (by decide) rfl (Nat.le_of_ble_eq_true rfl) ?_
  intro p e s m below meth c ls A hsz hx hb hr hml hown hts hlk hnm hK hN hA hP hD hS hl
  subst hsz
  have w1 := hts (.fieldLink RX3 30 "HatGoesRound$Told" "players" "I") (List.mem_of_getElem? (i := 1) rfl)
  have hinX3 : ∀ w ∈ u_ws RX3 TX3 8, w ∈ wsX3_takePlayerFigure := fun _ h => List.mem_cons_of_mem _ (List.mem_append_right _ h)
  have w5 := hts (.fieldLink RX3 21 "HatGoesRound$Told" "looks" "[I") (List.mem_of_getElem? (i := 5) rfl)
  have w4 := hts (.fieldLink RX3 18 "HatGoesRound$Told" "kinds" "[I") (List.mem_of_getElem? (i := 4) rfl)
  have w3 := hts (.fieldLink RX3 15 "HatGoesRound$Told" "winds" "[I") (List.mem_of_getElem? (i := 3) rfl)
  have w2 := hts (.fieldLink RX3 9 "HatGoesRound$Told" "prices" "[I") (List.mem_of_getElem? (i := 2) rfl)
  have hl : lv_has ls 4 [(0, .ref t_h), (1, .int x0), (2, .int x1)] := hl
  unfold f_X3_takePlayerFigure at hu
  refine lv_aload_n hx hb dX3_takePlayerFigure_0 rfl (lv_at hl 0 rfl) ?_
  refine va_get (D := (dC, dI)) (ci := 3) (v := .int t_players) (C := RX3) (T := TX3) (N := 8) hx hb hts hinX3 hown hK hP 0 rfl rfl 0 (by decide) w1 (fun _ h9 => h9) rfl dX3_takePlayerFigure_1 ?_
  refine lv_iconst (v := 1) hx hb dX3_takePlayerFigure_4 (by decide) ?_
  refine lv_isub hx hb dX3_takePlayerFigure_5 ?_
  refine lv_istore_n (lv' := [(3, .int (t_players - 1)), (0, .ref t_h), (1, .int x0), (2, .int x1)]) hx hb dX3_takePlayerFigure_6 rfl hl (by decide) rfl (fun ls hl => ?_)
  refine lv_iload_n hx hb dX3_takePlayerFigure_7 rfl (lv_at hl 2 rfl) ?_
  by_cases c_8_1 : x0 = 1
  · have hu := hu.trans (if_pos c_8_1)
    refine lv_tableIn (off := 73) (tgt := 81) hx hb dX3_takePlayerFigure_8 (by rw [c_8_1]; decide) (by rw [c_8_1]; decide) (by rw [c_8_1]; rfl) (by decide) ?_
    refine lv_aload_n hx hb dX3_takePlayerFigure_81 rfl (lv_at hl 1 rfl) ?_
    refine lv_aload_n hx hb dX3_takePlayerFigure_82 rfl (lv_at hl 1 rfl) ?_
    refine va_get (D := (dC, dI)) (ci := 3) (v := .ref t_looks) (C := RX3) (T := TX3) (N := 8) hx hb hts hinX3 hown hK hP 0 rfl rfl 5 (by decide) w5 (fun _ h9 => h9) rfl dX3_takePlayerFigure_83 ?_
    refine lv_iload_n hx hb dX3_takePlayerFigure_86 rfl (lv_at hl 0 rfl) ?_
    refine lv_iload_n hx hb dX3_takePlayerFigure_87 rfl (lv_at hl 3 rfl) ?_
    refine lv_iconst (v := 0) hx hb dX3_takePlayerFigure_88 (by decide) ?_
    refine lv_iconst (v := 5) hx hb dX3_takePlayerFigure_89 (by decide) ?_
    obtain ⟨r1, er1, hu⟩ := lxb_o hu
    refine hg_ci (va_runV (As := [.ref t_looks, .int (t_players - 1), .int x1, .int 0, .int 5]) (rest := []) ⟨hx, hb, hml, hown, hts⟩ (c_X3_takeWithin l dC dI cI cZ cM _ t_h t_looks (t_players - 1) x1 0 5 6 t_looks_v (by decide) r1 er1) (cwV 5 hts gX3_takePlayerFigure_X3_takeWithin rfl rfl rfl (by decide +kernel) ⟨Nat.le_of_ble_eq_true rfl, Nat.le_of_ble_eq_true rfl⟩) (hgPreV (C := RX3) (T := TX3) (N := 8) (ci := 3) (q0 := 0) hP hD hK hN [1] rfl rfl rfl rfl) rfl rfl hl.1 rfl (lv_room (Nat.le_of_ble_eq_true rfl)) dX3_takePlayerFigure_90 ⟨Nat.zero_le _, Nat.zero_le _⟩) hP hD hS hA (wr := [(t_h, .inr (3, [.int t_players, .int t_bars, .ref t_prices, .ref t_winds, .ref t_kinds, .ref t_looks, .ref t_noises, .ref t_repeats])), (t_kinds, .inl (cI, 6, .inl t_kinds_v)), (t_winds, .inl (cI, 6, .inl t_winds_v)), (t_prices, .inl (cI, 6, .inl t_prices_v))]) (wf := [(t_h, .inr (3, [.int t_players, .int t_bars, .ref t_prices, .ref t_winds, .ref t_kinds, .ref t_looks, .ref t_noises, .ref t_repeats])), (t_looks, .inl (cI, 6, .inl r1.2)), (t_kinds, .inl (cI, 6, .inl t_kinds_v)), (t_winds, .inl (cI, 6, .inl t_winds_v)), (t_prices, .inl (cI, 6, .inl t_prices_v))]) [1] [0, 2, 3, 4] [0, 4, 1, 2, 3] rfl rfl rfl (by decide) rfl rfl (fun H locs hP hD hS => ?_)
    subst hu
    exact hg_rz hx hb hr hlk (z_X3_takeWithin er1) rfl hP hD hS dX3_takePlayerFigure_93
  · have hu := hu.trans (if_neg c_8_1)
    by_cases c_8_2 : x0 = 2
    · have hu := hu.trans (if_pos c_8_2)
      refine lv_tableIn (off := 60) (tgt := 68) hx hb dX3_takePlayerFigure_8 (by rw [c_8_2]; decide) (by rw [c_8_2]; decide) (by rw [c_8_2]; rfl) (by decide) ?_
      refine lv_aload_n hx hb dX3_takePlayerFigure_68 rfl (lv_at hl 1 rfl) ?_
      refine lv_aload_n hx hb dX3_takePlayerFigure_69 rfl (lv_at hl 1 rfl) ?_
      refine va_get (D := (dC, dI)) (ci := 3) (v := .ref t_kinds) (C := RX3) (T := TX3) (N := 8) hx hb hts hinX3 hown hK hP 0 rfl rfl 4 (by decide) w4 (fun _ h9 => h9) rfl dX3_takePlayerFigure_70 ?_
      refine lv_iload_n hx hb dX3_takePlayerFigure_73 rfl (lv_at hl 0 rfl) ?_
      refine lv_iload_n hx hb dX3_takePlayerFigure_74 rfl (lv_at hl 3 rfl) ?_
      refine lv_iconst (v := 0) hx hb dX3_takePlayerFigure_75 (by decide) ?_
      refine lv_iconst (v := 3) hx hb dX3_takePlayerFigure_76 (by decide) ?_
      obtain ⟨r2, er2, hu⟩ := lxb_o hu
      refine hg_ci (va_runV (As := [.ref t_kinds, .int (t_players - 1), .int x1, .int 0, .int 3]) (rest := []) ⟨hx, hb, hml, hown, hts⟩ (c_X3_takeWithin l dC dI cI cZ cM _ t_h t_kinds (t_players - 1) x1 0 3 6 t_kinds_v (by decide) r2 er2) (cwV 5 hts gX3_takePlayerFigure_X3_takeWithin rfl rfl rfl (by decide +kernel) ⟨Nat.le_of_ble_eq_true rfl, Nat.le_of_ble_eq_true rfl⟩) (hgPreV (C := RX3) (T := TX3) (N := 8) (ci := 3) (q0 := 0) hP hD hK hN [2] rfl rfl rfl rfl) rfl rfl hl.1 rfl (lv_room (Nat.le_of_ble_eq_true rfl)) dX3_takePlayerFigure_77 ⟨Nat.zero_le _, Nat.zero_le _⟩) hP hD hS hA (wr := [(t_h, .inr (3, [.int t_players, .int t_bars, .ref t_prices, .ref t_winds, .ref t_kinds, .ref t_looks, .ref t_noises, .ref t_repeats])), (t_looks, .inl (cI, 6, .inl t_looks_v)), (t_winds, .inl (cI, 6, .inl t_winds_v)), (t_prices, .inl (cI, 6, .inl t_prices_v))]) (wf := [(t_h, .inr (3, [.int t_players, .int t_bars, .ref t_prices, .ref t_winds, .ref t_kinds, .ref t_looks, .ref t_noises, .ref t_repeats])), (t_looks, .inl (cI, 6, .inl t_looks_v)), (t_kinds, .inl (cI, 6, .inl r2.2)), (t_winds, .inl (cI, 6, .inl t_winds_v)), (t_prices, .inl (cI, 6, .inl t_prices_v))]) [2] [0, 1, 3, 4] [0, 1, 4, 2, 3] rfl rfl rfl (by decide) rfl rfl (fun H locs hP hD hS => ?_)
      subst hu
      exact hg_rz hx hb hr hlk (z_X3_takeWithin er2) rfl hP hD hS dX3_takePlayerFigure_80
    · have hu := hu.trans (if_neg c_8_2)
      by_cases c_8_3 : x0 = 3
      · have hu := hu.trans (if_pos c_8_3)
        refine lv_tableIn (off := 46) (tgt := 54) hx hb dX3_takePlayerFigure_8 (by rw [c_8_3]; decide) (by rw [c_8_3]; decide) (by rw [c_8_3]; rfl) (by decide) ?_
        refine lv_aload_n hx hb dX3_takePlayerFigure_54 rfl (lv_at hl 1 rfl) ?_
        refine lv_aload_n hx hb dX3_takePlayerFigure_55 rfl (lv_at hl 1 rfl) ?_
        refine va_get (D := (dC, dI)) (ci := 3) (v := .ref t_winds) (C := RX3) (T := TX3) (N := 8) hx hb hts hinX3 hown hK hP 0 rfl rfl 3 (by decide) w3 (fun _ h9 => h9) rfl dX3_takePlayerFigure_56 ?_
        refine lv_iload_n hx hb dX3_takePlayerFigure_59 rfl (lv_at hl 0 rfl) ?_
        refine lv_iload_n hx hb dX3_takePlayerFigure_60 rfl (lv_at hl 3 rfl) ?_
        refine lv_iconst (v := 0) hx hb dX3_takePlayerFigure_61 (by decide) ?_
        refine lv_bipush (v := 9) hx hb dX3_takePlayerFigure_62 (by decide) ?_
        obtain ⟨r3, er3, hu⟩ := lxb_o hu
        refine hg_ci (va_runV (As := [.ref t_winds, .int (t_players - 1), .int x1, .int 0, .int 9]) (rest := []) ⟨hx, hb, hml, hown, hts⟩ (c_X3_takeWithin l dC dI cI cZ cM _ t_h t_winds (t_players - 1) x1 0 9 6 t_winds_v (by decide) r3 er3) (cwV 5 hts gX3_takePlayerFigure_X3_takeWithin rfl rfl rfl (by decide +kernel) ⟨Nat.le_of_ble_eq_true rfl, Nat.le_of_ble_eq_true rfl⟩) (hgPreV (C := RX3) (T := TX3) (N := 8) (ci := 3) (q0 := 0) hP hD hK hN [3] rfl rfl rfl rfl) rfl rfl hl.1 rfl (lv_room (Nat.le_of_ble_eq_true rfl)) dX3_takePlayerFigure_64 ⟨Nat.zero_le _, Nat.zero_le _⟩) hP hD hS hA (wr := [(t_h, .inr (3, [.int t_players, .int t_bars, .ref t_prices, .ref t_winds, .ref t_kinds, .ref t_looks, .ref t_noises, .ref t_repeats])), (t_looks, .inl (cI, 6, .inl t_looks_v)), (t_kinds, .inl (cI, 6, .inl t_kinds_v)), (t_prices, .inl (cI, 6, .inl t_prices_v))]) (wf := [(t_h, .inr (3, [.int t_players, .int t_bars, .ref t_prices, .ref t_winds, .ref t_kinds, .ref t_looks, .ref t_noises, .ref t_repeats])), (t_looks, .inl (cI, 6, .inl t_looks_v)), (t_kinds, .inl (cI, 6, .inl t_kinds_v)), (t_winds, .inl (cI, 6, .inl r3.2)), (t_prices, .inl (cI, 6, .inl t_prices_v))]) [3] [0, 1, 2, 4] [0, 1, 2, 4, 3] rfl rfl rfl (by decide) rfl rfl (fun H locs hP hD hS => ?_)
        subst hu
        exact hg_rz hx hb hr hlk (z_X3_takeWithin er3) rfl hP hD hS dX3_takePlayerFigure_67
      · have hu := hu.trans (if_neg c_8_3)
        by_cases c_8_4 : x0 = 4
        · have hu := hu.trans (if_pos c_8_4)
          refine lv_tableIn (off := 32) (tgt := 40) hx hb dX3_takePlayerFigure_8 (by rw [c_8_4]; decide) (by rw [c_8_4]; decide) (by rw [c_8_4]; rfl) (by decide) ?_
          refine lv_aload_n hx hb dX3_takePlayerFigure_40 rfl (lv_at hl 1 rfl) ?_
          refine lv_aload_n hx hb dX3_takePlayerFigure_41 rfl (lv_at hl 1 rfl) ?_
          refine va_get (D := (dC, dI)) (ci := 3) (v := .ref t_prices) (C := RX3) (T := TX3) (N := 8) hx hb hts hinX3 hown hK hP 0 rfl rfl 2 (by decide) w2 (fun _ h9 => h9) rfl dX3_takePlayerFigure_42 ?_
          refine lv_iload_n hx hb dX3_takePlayerFigure_45 rfl (lv_at hl 0 rfl) ?_
          refine lv_iload_n hx hb dX3_takePlayerFigure_46 rfl (lv_at hl 3 rfl) ?_
          refine lv_iconst (v := 1) hx hb dX3_takePlayerFigure_47 (by decide) ?_
          refine lv_bipush (v := 9) hx hb dX3_takePlayerFigure_48 (by decide) ?_
          obtain ⟨r4, er4, hu⟩ := lxb_o hu
          refine hg_ci (va_runV (As := [.ref t_prices, .int (t_players - 1), .int x1, .int 1, .int 9]) (rest := []) ⟨hx, hb, hml, hown, hts⟩ (c_X3_takeWithin l dC dI cI cZ cM _ t_h t_prices (t_players - 1) x1 1 9 6 t_prices_v (by decide) r4 er4) (cwV 5 hts gX3_takePlayerFigure_X3_takeWithin rfl rfl rfl (by decide +kernel) ⟨Nat.le_of_ble_eq_true rfl, Nat.le_of_ble_eq_true rfl⟩) (hgPreV (C := RX3) (T := TX3) (N := 8) (ci := 3) (q0 := 0) hP hD hK hN [4] rfl rfl rfl rfl) rfl rfl hl.1 rfl (lv_room (Nat.le_of_ble_eq_true rfl)) dX3_takePlayerFigure_50 ⟨Nat.zero_le _, Nat.zero_le _⟩) hP hD hS hA (wr := [(t_h, .inr (3, [.int t_players, .int t_bars, .ref t_prices, .ref t_winds, .ref t_kinds, .ref t_looks, .ref t_noises, .ref t_repeats])), (t_looks, .inl (cI, 6, .inl t_looks_v)), (t_kinds, .inl (cI, 6, .inl t_kinds_v)), (t_winds, .inl (cI, 6, .inl t_winds_v))]) (wf := [(t_h, .inr (3, [.int t_players, .int t_bars, .ref t_prices, .ref t_winds, .ref t_kinds, .ref t_looks, .ref t_noises, .ref t_repeats])), (t_looks, .inl (cI, 6, .inl t_looks_v)), (t_kinds, .inl (cI, 6, .inl t_kinds_v)), (t_winds, .inl (cI, 6, .inl t_winds_v)), (t_prices, .inl (cI, 6, .inl r4.2))]) [4] [0, 1, 2, 3] [0, 1, 2, 3, 4] rfl rfl rfl (by decide) rfl rfl (fun H locs hP hD hS => ?_)
          subst hu
          exact hg_rz hx hb hr hlk (z_X3_takeWithin er4) rfl hP hD hS dX3_takePlayerFigure_53
        · have hu := hu.trans (if_neg c_8_4)
          refine lv_tableOut (tgt := 94) hx hb dX3_takePlayerFigure_8 (hg_tout (lo := 1) (hi := 4) (fun j h1 h2 e => by rcases (show j = 1 ∨ j = 2 ∨ j = 3 ∨ j = 4 by omega) with rfl | rfl | rfl | rfl <;> first | exact c_8_1 e | exact c_8_2 e | exact c_8_3 e | exact c_8_4 e)) (by decide) ?_
          refine lv_iconst (v := 0) hx hb dX3_takePlayerFigure_94 (by decide) ?_
          subst hu
          exact hg_rz hx hb hr hlk (by decide) rfl hP hD hS dX3_takePlayerFigure_95

set_option maxHeartbeats 4000000 in
set_option maxRecDepth 100000 in
theorem c_X3_figuresOfNewPart (l : Launch) (dC : Nat → ClassId) (dI : Nat → Nat → Nat) (cI cZ cM : ClassId) (sz : Nat) (t_h : Nat) (x0 : Int32) (t_players : Int32) (t_bars : Int32) (t_prices : Nat) (t_winds : Nat) (t_kinds : Nat) (t_looks : Nat) (t_noises : Nat) (t_repeats : Nat) (u : Int32 × Int32 × Int32) (hu : u = f_X3_figuresOfNewPart x0 t_players t_bars) : Met l yX3_figuresOfNewPart wsX3_figuresOfNewPart { frames := 0, cells := 0, slots := 0, locals := 0 } (hgPc [.ref t_h, .int x0] (dC, dI) cI cZ cM [(t_h, .inr (3, [.int t_players, .int t_bars, .ref t_prices, .ref t_winds, .ref t_kinds, .ref t_looks, .ref t_noises, .ref t_repeats]))] sz) (hgQi (dC, dI) u.1 [(t_h, .inr (3, [.int u.2.1, .int u.2.2, .ref t_prices, .ref t_winds, .ref t_kinds, .ref t_looks, .ref t_noises, .ref t_repeats]))] (va_A [(t_h, .inr (3, [.int t_players, .int t_bars, .ref t_prices, .ref t_winds, .ref t_kinds, .ref t_looks, .ref t_noises, .ref t_repeats]))] sz)) 0 0 (va_A [(t_h, .inr (3, [.int t_players, .int t_bars, .ref t_prices, .ref t_winds, .ref t_kinds, .ref t_looks, .ref t_noises, .ref t_repeats]))] sz) := by
  refine hg_ofW (cc := cX3_figuresOfNewPart) (maxL := 2) (ret := (some .int)) (own := RX3) (fun A => hgQi (dC, dI) u.1 [(t_h, .inr (3, [.int u.2.1, .int u.2.2, .ref t_prices, .ref t_winds, .ref t_kinds, .ref t_looks, .ref t_noises, .ref t_repeats]))] A) rfl (by decide) rfl (Nat.le_of_ble_eq_true rfl) ?_
  intro p e s m below meth c ls A hsz hx hb hr hml hown hts hlk hnm hK hN hA hP hD hS hl
  subst hsz
  have w2 := hts (.fieldLink RX3 34 "HatGoesRound$Told" "bars" "I") (List.mem_of_getElem? (i := 2) rfl)
  have hinX3 : ∀ w ∈ u_ws RX3 TX3 8, w ∈ wsX3_figuresOfNewPart := fun _ h => List.mem_cons_of_mem _ (List.mem_append_right _ h)
  have w1 := hts (.fieldLink RX3 30 "HatGoesRound$Told" "players" "I") (List.mem_of_getElem? (i := 1) rfl)
  have hl : lv_has ls 2 [(0, .ref t_h), (1, .int x0)] := hl
  unfold f_X3_figuresOfNewPart at hu
  refine lv_iload_n hx hb dX3_figuresOfNewPart_0 rfl (lv_at hl 1 rfl) ?_
  refine lv_bipush (v := 80) hx hb dX3_figuresOfNewPart_1 (by decide) ?_
  refine lv_icmp_ne (tgt := 27) hx hb dX3_figuresOfNewPart_3 (by decide) (fun c_3 => ?_) (fun c_3 => ?_)
  · have hu := hu.trans (if_neg c_3)
    refine lv_iload_n hx hb dX3_figuresOfNewPart_27 rfl (lv_at hl 1 rfl) ?_
    refine lv_bipush (v := 66) hx hb dX3_figuresOfNewPart_28 (by decide) ?_
    refine lv_icmp_ne (tgt := 54) hx hb dX3_figuresOfNewPart_30 (by decide) (fun c_30 => ?_) (fun c_30 => ?_)
    · have hu := hu.trans (if_neg c_30)
      refine lv_iconst (v := 0) hx hb dX3_figuresOfNewPart_54 (by decide) ?_
      subst hu
      exact hg_ri hx hb hr hlk rfl hP hD hS dX3_figuresOfNewPart_55
    · have hu := hu.trans (if_pos c_30)
      refine lv_aload_n hx hb dX3_figuresOfNewPart_33 rfl (lv_at hl 0 rfl) ?_
      refine va_get (D := (dC, dI)) (ci := 3) (v := .int t_bars) (C := RX3) (T := TX3) (N := 8) hx hb hts hinX3 hown hK hP 0 rfl rfl 1 (by decide) w2 (fun _ h9 => h9) rfl dX3_figuresOfNewPart_34 ?_
      refine lv_bipush (v := 8) hx hb dX3_figuresOfNewPart_37 (by decide) ?_
      refine lv_icmp_ge (tgt := 54) hx hb dX3_figuresOfNewPart_39 (by decide) (fun c_39 => ?_) (fun c_39 => ?_)
      · have hu := hu.trans (if_pos c_39)
        refine lv_iconst (v := 0) hx hb dX3_figuresOfNewPart_54 (by decide) ?_
        subst hu
        exact hg_ri hx hb hr hlk rfl hP hD hS dX3_figuresOfNewPart_55
      · have hu := hu.trans (if_neg c_39)
        refine lv_aload_n hx hb dX3_figuresOfNewPart_42 rfl (lv_at hl 0 rfl) ?_
        refine lv_dup hx hb dX3_figuresOfNewPart_43 rfl ?_
        refine va_get (D := (dC, dI)) (ci := 3) (v := .int t_bars) (C := RX3) (T := TX3) (N := 8) hx hb hts hinX3 hown hK hP 0 rfl rfl 1 (by decide) w2 (fun _ h9 => h9) rfl dX3_figuresOfNewPart_44 ?_
        refine lv_iconst (v := 1) hx hb dX3_figuresOfNewPart_47 (by decide) ?_
        refine lv_iadd hx hb dX3_figuresOfNewPart_48 ?_
        refine va_put (D := (dC, dI)) (ci := 3) (v := .int (t_bars + 1)) (ty := .int) (C := RX3) (T := TX3) (N := 8) hx hb hts hinX3 tyX3 tyX3_ok nmX3 hown hK hP hD hS 0 rfl rfl 1 (by decide) w2 (fun _ h9 => h9) rfl (by decide +kernel) rfl rfl (Nat.le_of_ble_eq_true rfl) dX3_figuresOfNewPart_49 (fun H locs hP hD hS => ?_)
        have hP : va_P (dC, dI) vwCl [(t_h, .inr (3, [.int t_players, .int (t_bars + 1), .ref t_prices, .ref t_winds, .ref t_kinds, .ref t_looks, .ref t_noises, .ref t_repeats]))] H := hP
        have hD : va_D A [(t_h, .inr (3, [.int t_players, .int (t_bars + 1), .ref t_prices, .ref t_winds, .ref t_kinds, .ref t_looks, .ref t_noises, .ref t_repeats]))] := hD
        refine lv_iconst (v := 2) hx hb dX3_figuresOfNewPart_52 (by decide) ?_
        subst hu
        exact hg_ri hx hb hr hlk rfl hP hD hS dX3_figuresOfNewPart_53
  · have hu := hu.trans (if_pos c_3)
    refine lv_aload_n hx hb dX3_figuresOfNewPart_6 rfl (lv_at hl 0 rfl) ?_
    refine va_get (D := (dC, dI)) (ci := 3) (v := .int t_players) (C := RX3) (T := TX3) (N := 8) hx hb hts hinX3 hown hK hP 0 rfl rfl 0 (by decide) w1 (fun _ h9 => h9) rfl dX3_figuresOfNewPart_7 ?_
    refine lv_bipush (v := 6) hx hb dX3_figuresOfNewPart_10 (by decide) ?_
    refine lv_icmp_ge (tgt := 27) hx hb dX3_figuresOfNewPart_12 (by decide) (fun c_12 => ?_) (fun c_12 => ?_)
    · have hu := hu.trans (if_pos c_12)
      refine lv_iload_n hx hb dX3_figuresOfNewPart_27 rfl (lv_at hl 1 rfl) ?_
      refine lv_bipush (v := 66) hx hb dX3_figuresOfNewPart_28 (by decide) ?_
      refine lv_icmp_ne (tgt := 54) hx hb dX3_figuresOfNewPart_30 (by decide) (fun c_30 => ?_) (fun c_30 => ?_)
      · have hu := hu.trans (if_neg c_30)
        refine lv_iconst (v := 0) hx hb dX3_figuresOfNewPart_54 (by decide) ?_
        subst hu
        exact hg_ri hx hb hr hlk rfl hP hD hS dX3_figuresOfNewPart_55
      · have hu := hu.trans (if_pos c_30)
        refine lv_aload_n hx hb dX3_figuresOfNewPart_33 rfl (lv_at hl 0 rfl) ?_
        refine va_get (D := (dC, dI)) (ci := 3) (v := .int t_bars) (C := RX3) (T := TX3) (N := 8) hx hb hts hinX3 hown hK hP 0 rfl rfl 1 (by decide) w2 (fun _ h9 => h9) rfl dX3_figuresOfNewPart_34 ?_
        refine lv_bipush (v := 8) hx hb dX3_figuresOfNewPart_37 (by decide) ?_
        refine lv_icmp_ge (tgt := 54) hx hb dX3_figuresOfNewPart_39 (by decide) (fun c_39 => ?_) (fun c_39 => ?_)
        · have hu := hu.trans (if_pos c_39)
          refine lv_iconst (v := 0) hx hb dX3_figuresOfNewPart_54 (by decide) ?_
          subst hu
          exact hg_ri hx hb hr hlk rfl hP hD hS dX3_figuresOfNewPart_55
        · have hu := hu.trans (if_neg c_39)
          refine lv_aload_n hx hb dX3_figuresOfNewPart_42 rfl (lv_at hl 0 rfl) ?_
          refine lv_dup hx hb dX3_figuresOfNewPart_43 rfl ?_
          refine va_get (D := (dC, dI)) (ci := 3) (v := .int t_bars) (C := RX3) (T := TX3) (N := 8) hx hb hts hinX3 hown hK hP 0 rfl rfl 1 (by decide) w2 (fun _ h9 => h9) rfl dX3_figuresOfNewPart_44 ?_
          refine lv_iconst (v := 1) hx hb dX3_figuresOfNewPart_47 (by decide) ?_
          refine lv_iadd hx hb dX3_figuresOfNewPart_48 ?_
          refine va_put (D := (dC, dI)) (ci := 3) (v := .int (t_bars + 1)) (ty := .int) (C := RX3) (T := TX3) (N := 8) hx hb hts hinX3 tyX3 tyX3_ok nmX3 hown hK hP hD hS 0 rfl rfl 1 (by decide) w2 (fun _ h9 => h9) rfl (by decide +kernel) rfl rfl (Nat.le_of_ble_eq_true rfl) dX3_figuresOfNewPart_49 (fun H locs hP hD hS => ?_)
          have hP : va_P (dC, dI) vwCl [(t_h, .inr (3, [.int t_players, .int (t_bars + 1), .ref t_prices, .ref t_winds, .ref t_kinds, .ref t_looks, .ref t_noises, .ref t_repeats]))] H := hP
          have hD : va_D A [(t_h, .inr (3, [.int t_players, .int (t_bars + 1), .ref t_prices, .ref t_winds, .ref t_kinds, .ref t_looks, .ref t_noises, .ref t_repeats]))] := hD
          refine lv_iconst (v := 2) hx hb dX3_figuresOfNewPart_52 (by decide) ?_
          subst hu
          exact hg_ri hx hb hr hlk rfl hP hD hS dX3_figuresOfNewPart_53
    · have hu := hu.trans (if_neg c_12)
      refine lv_aload_n hx hb dX3_figuresOfNewPart_15 rfl (lv_at hl 0 rfl) ?_
      refine lv_dup hx hb dX3_figuresOfNewPart_16 rfl ?_
      refine va_get (D := (dC, dI)) (ci := 3) (v := .int t_players) (C := RX3) (T := TX3) (N := 8) hx hb hts hinX3 hown hK hP 0 rfl rfl 0 (by decide) w1 (fun _ h9 => h9) rfl dX3_figuresOfNewPart_17 ?_
      refine lv_iconst (v := 1) hx hb dX3_figuresOfNewPart_20 (by decide) ?_
      refine lv_iadd hx hb dX3_figuresOfNewPart_21 ?_
      refine va_put (D := (dC, dI)) (ci := 3) (v := .int (t_players + 1)) (ty := .int) (C := RX3) (T := TX3) (N := 8) hx hb hts hinX3 tyX3 tyX3_ok nmX3 hown hK hP hD hS 0 rfl rfl 0 (by decide) w1 (fun _ h9 => h9) rfl (by decide +kernel) rfl rfl (Nat.le_of_ble_eq_true rfl) dX3_figuresOfNewPart_22 (fun H locs hP hD hS => ?_)
      have hP : va_P (dC, dI) vwCl [(t_h, .inr (3, [.int (t_players + 1), .int t_bars, .ref t_prices, .ref t_winds, .ref t_kinds, .ref t_looks, .ref t_noises, .ref t_repeats]))] H := hP
      have hD : va_D A [(t_h, .inr (3, [.int (t_players + 1), .int t_bars, .ref t_prices, .ref t_winds, .ref t_kinds, .ref t_looks, .ref t_noises, .ref t_repeats]))] := hD
      refine lv_iconst (v := 4) hx hb dX3_figuresOfNewPart_25 (by decide) ?_
      subst hu
      exact hg_ri hx hb hr hlk rfl hP hD hS dX3_figuresOfNewPart_26
