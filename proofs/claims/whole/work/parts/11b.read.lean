def l_X3_read_35 (x1 : Int32) (r0_n : Nat) (r0_v : Nat → Int32) : Nat → Nat → (Int32 × Int32 × Int32 × Int32 × (Nat → Int32) × (Nat → Int32) × (Nat → Int32) × (Nat → Int32) × (Nat → Int32) × (Nat → Int32)) → Int32 × Int32 × Int32 × (Nat → Int32) × (Nat → Int32) × (Nat → Int32) × (Nat → Int32) × (Nat → Int32) × (Nat → Int32)
  | 0, _, v35 =>
    if v35.2.1 = 0 then ((-9), v35.2.2.1, v35.2.2.2.1, v35.2.2.2.2.1, v35.2.2.2.2.2.1, v35.2.2.2.2.2.2.1, v35.2.2.2.2.2.2.2.1, v35.2.2.2.2.2.2.2.2.1, v35.2.2.2.2.2.2.2.2.2)
    else (x1, v35.2.2.1, v35.2.2.2.1, v35.2.2.2.2.1, v35.2.2.2.2.2.1, v35.2.2.2.2.2.2.1, v35.2.2.2.2.2.2.2.1, v35.2.2.2.2.2.2.2.2.1, v35.2.2.2.2.2.2.2.2.2)
  | n35 + 1, k35, v35 =>
    lxb (f_X4_at (nI (k35 + 1)) r0_n r0_v) (fun r2 =>
    if v35.2.1 = 0 then (lxb (α := Int32) (if r2 = 80 then 1
       else 0) (fun z7 =>
      lxb (f_X3_figuresOfNewPart r2 v35.2.2.1 v35.2.2.2.1) (fun r8 =>
       if r8.1 = 0 then (nI (k35 + 1), r8.2.1, r8.2.2, v35.2.2.2.2.1, v35.2.2.2.2.2.1, v35.2.2.2.2.2.2.1, v35.2.2.2.2.2.2.2.1, v35.2.2.2.2.2.2.2.2.1, v35.2.2.2.2.2.2.2.2.2)
        else l_X3_read_35 x1 r0_n r0_v n35 (k35 + 1) (z7, r8.1, r8.2.1, r8.2.2, v35.2.2.2.2.1, v35.2.2.2.2.2.1, v35.2.2.2.2.2.2.1, v35.2.2.2.2.2.2.2.1, v35.2.2.2.2.2.2.2.2.1, v35.2.2.2.2.2.2.2.2.2))))
     else if v35.1 = 0 then (lxb (f_X3_takeBarFigure v35.2.1 (r2 - 48) v35.2.2.2.1 v35.2.2.2.2.1 v35.2.2.2.2.2.1) (fun r3 =>
       if r3.1 = 0 then (nI (k35 + 1), v35.2.2.1, v35.2.2.2.1, r3.2.1, r3.2.2, v35.2.2.2.2.2.2.1, v35.2.2.2.2.2.2.2.1, v35.2.2.2.2.2.2.2.2.1, v35.2.2.2.2.2.2.2.2.2)
        else lxb ((v35.2.1 + (-1))) (fun y4 =>
         l_X3_read_35 x1 r0_n r0_v n35 (k35 + 1) (v35.1, y4, v35.2.2.1, v35.2.2.2.1, r3.2.1, r3.2.2, v35.2.2.2.2.2.2.1, v35.2.2.2.2.2.2.2.1, v35.2.2.2.2.2.2.2.2.1, v35.2.2.2.2.2.2.2.2.2))))
      else lxb (f_X3_takePlayerFigure v35.2.1 (r2 - 48) v35.2.2.1 v35.2.2.2.2.2.2.1 v35.2.2.2.2.2.2.2.1 v35.2.2.2.2.2.2.2.2.1 v35.2.2.2.2.2.2.2.2.2) (fun r5 =>
       if r5.1 = 0 then (nI (k35 + 1), v35.2.2.1, v35.2.2.2.1, v35.2.2.2.2.1, v35.2.2.2.2.2.1, r5.2.1, r5.2.2.1, r5.2.2.2.1, r5.2.2.2.2)
        else lxb ((v35.2.1 + (-1))) (fun y6 =>
         l_X3_read_35 x1 r0_n r0_v n35 (k35 + 1) (v35.1, y6, v35.2.2.1, v35.2.2.2.1, v35.2.2.2.2.1, v35.2.2.2.2.2.1, r5.2.1, r5.2.2.1, r5.2.2.2.1, r5.2.2.2.2))))
def f_X3_read (x1 : Int32) (r0_n : Nat) (r0_v : Nat → Int32) (t_repeats_v : Nat → Int32) (t_noises_v : Nat → Int32) (t_looks_v : Nat → Int32) (t_kinds_v : Nat → Int32) (t_winds_v : Nat → Int32) (t_prices_v : Nat → Int32) : Int32 × Int32 × Int32 × (Nat → Int32) × (Nat → Int32) × (Nat → Int32) × (Nat → Int32) × (Nat → Int32) × (Nat → Int32) :=
  if x1 < 1 then (0, 0, 0, t_repeats_v, t_noises_v, t_looks_v, t_kinds_v, t_winds_v, t_prices_v)
  else lxb (f_X4_at 0 r0_n r0_v) (fun r1 =>
   if r1 = 79 then l_X3_read_35 x1 r0_n r0_v (itn 1 x1) 0 (0, 0, 0, 0, t_repeats_v, t_noises_v, t_looks_v, t_kinds_v, t_winds_v, t_prices_v)
    else (0, 0, 0, t_repeats_v, t_noises_v, t_looks_v, t_kinds_v, t_winds_v, t_prices_v))
set_option maxHeartbeats 4000000 in
set_option maxRecDepth 100000 in
theorem c_X3_read (l : Launch) (dC : Nat → ClassId) (dI : Nat → Nat → Nat) (cI cZ cM : ClassId) (sz : Nat) (t_h : Nat) (r0_h : Nat) (x1 : Int32) (t_players : Int32) (t_bars : Int32) (t_prices : Nat) (t_winds : Nat) (t_kinds : Nat) (t_looks : Nat) (t_noises : Nat) (t_repeats : Nat) (r0_n : Nat) (r0_v : Nat → Int32) (t_repeats_v : Nat → Int32) (t_noises_v : Nat → Int32) (t_looks_v : Nat → Int32) (t_kinds_v : Nat → Int32) (t_winds_v : Nat → Int32) (t_prices_v : Nat → Int32) (hn : r0_n < 2 ^ 31) (u : Int32 × Int32 × Int32 × (Nat → Int32) × (Nat → Int32) × (Nat → Int32) × (Nat → Int32) × (Nat → Int32) × (Nat → Int32)) (hu : u = f_X3_read x1 r0_n r0_v t_repeats_v t_noises_v t_looks_v t_kinds_v t_winds_v t_prices_v) : Met l yX3_read wsX3_read { frames := 3, cells := 0, slots := 0, locals := 70 } (hgPc [.ref t_h, .ref r0_h, .int x1] (dC, dI) cI cZ cM [(t_h, .inr (3, [.int t_players, .int t_bars, .ref t_prices, .ref t_winds, .ref t_kinds, .ref t_looks, .ref t_noises, .ref t_repeats])), (r0_h, .inl (cI, r0_n, .inl r0_v)), (t_repeats, .inl (cI, 8, .inl t_repeats_v)), (t_noises, .inl (cI, 8, .inl t_noises_v)), (t_looks, .inl (cI, 6, .inl t_looks_v)), (t_kinds, .inl (cI, 6, .inl t_kinds_v)), (t_winds, .inl (cI, 6, .inl t_winds_v)), (t_prices, .inl (cI, 6, .inl t_prices_v))] sz) (hgQi (dC, dI) u.1 [(t_h, .inr (3, [.int u.2.1, .int u.2.2.1, .ref t_prices, .ref t_winds, .ref t_kinds, .ref t_looks, .ref t_noises, .ref t_repeats])), (r0_h, .inl (cI, r0_n, .inl r0_v)), (t_repeats, .inl (cI, 8, .inl u.2.2.2.1)), (t_noises, .inl (cI, 8, .inl u.2.2.2.2.1)), (t_looks, .inl (cI, 6, .inl u.2.2.2.2.2.1)), (t_kinds, .inl (cI, 6, .inl u.2.2.2.2.2.2.1)), (t_winds, .inl (cI, 6, .inl u.2.2.2.2.2.2.2.1)), (t_prices, .inl (cI, 6, .inl u.2.2.2.2.2.2.2.2))] (va_A [(t_h, .inr (3, [.int t_players, .int t_bars, .ref t_prices, .ref t_winds, .ref t_kinds, .ref t_looks, .ref t_noises, .ref t_repeats])), (r0_h, .inl (cI, r0_n, .inl r0_v)), (t_repeats, .inl (cI, 8, .inl t_repeats_v)), (t_noises, .inl (cI, 8, .inl t_noises_v)), (t_looks, .inl (cI, 6, .inl t_looks_v)), (t_kinds, .inl (cI, 6, .inl t_kinds_v)), (t_winds, .inl (cI, 6, .inl t_winds_v)), (t_prices, .inl (cI, 6, .inl t_prices_v))] sz)) 0 0 (va_A [(t_h, .inr (3, [.int t_players, .int t_bars, .ref t_prices, .ref t_winds, .ref t_kinds, .ref t_looks, .ref t_noises, .ref t_repeats])), (r0_h, .inl (cI, r0_n, .inl r0_v)), (t_repeats, .inl (cI, 8, .inl t_repeats_v)), (t_noises, .inl (cI, 8, .inl t_noises_v)), (t_looks, .inl (cI, 6, .inl t_looks_v)), (t_kinds, .inl (cI, 6, .inl t_kinds_v)), (t_winds, .inl (cI, 6, .inl t_winds_v)), (t_prices, .inl (cI, 6, .inl t_prices_v))] sz) := by
  refine hg_ofW (cc := cX3_read) (maxL := 8) (ret := (some .int)) (own := RX3) (fun A => hgQi (dC, dI) u.1 [(t_h, .inr (3, [.int u.2.1, .int u.2.2.1, .ref t_prices, .ref t_winds, .ref t_kinds, .ref t_looks, .ref t_noises, .ref t_repeats])), (r0_h, .inl (cI, r0_n, .inl r0_v)), (t_repeats, .inl (cI, 8, .inl u.2.2.2.1)), (t_noises, .inl (cI, 8, .inl u.2.2.2.2.1)), (t_looks, .inl (cI, 6, .inl u.2.2.2.2.2.1)), (t_kinds, .inl (cI, 6, .inl u.2.2.2.2.2.2.1)), (t_winds, .inl (cI, 6, .inl u.2.2.2.2.2.2.2.1)), (t_prices, .inl (cI, 6, .inl u.2.2.2.2.2.2.2.2))] A) rfl (by decide) rfl (Nat.le_of_ble_eq_true rfl) ?_
  intro p e s m below meth c ls A hsz hx hb hr hml hown hts hlk hnm hK hN hA hP hD hS hl
  subst hsz
  have w1 := hts (.fieldLink RX3 30 "HatGoesRound$Told" "players" "I") (List.mem_of_getElem? (i := 1) rfl)
  have hinX3 : ∀ w ∈ u_ws RX3 TX3 8, w ∈ wsX3_read := fun _ h => List.mem_cons_of_mem _ (List.mem_append_right _ h)
  have w2 := hts (.fieldLink RX3 34 "HatGoesRound$Told" "bars" "I") (List.mem_of_getElem? (i := 2) rfl)
  have w4 := hts (.initialized RX4) (List.mem_of_getElem? (i := 4) rfl)
  have w3 := hts (.static yX4_at) (List.mem_of_getElem? (i := 3) rfl)
  have hl : lv_has ls 8 [(0, .ref t_h), (1, .ref r0_h), (2, .int x1)] := hl
  unfold f_X3_read at hu
  refine lv_aload_n hx hb dX3_read_0 rfl (lv_at hl 0 rfl) ?_
  refine lv_iconst (v := 0) hx hb dX3_read_1 (by decide) ?_
  refine va_put (D := (dC, dI)) (ci := 3) (v := .int 0) (ty := .int) (C := RX3) (T := TX3) (N := 8) hx hb hts hinX3 tyX3 tyX3_ok nmX3 hown hK hP hD hS 0 rfl rfl 0 (by decide) w1 (fun _ h9 => h9) rfl (by decide +kernel) rfl rfl (Nat.le_of_ble_eq_true rfl) dX3_read_2 (fun H locs hP hD hS => ?_)
  have hP : va_P (dC, dI) vwCl [(t_h, .inr (3, [.int 0, .int t_bars, .ref t_prices, .ref t_winds, .ref t_kinds, .ref t_looks, .ref t_noises, .ref t_repeats])), (r0_h, .inl (cI, r0_n, .inl r0_v)), (t_repeats, .inl (cI, 8, .inl t_repeats_v)), (t_noises, .inl (cI, 8, .inl t_noises_v)), (t_looks, .inl (cI, 6, .inl t_looks_v)), (t_kinds, .inl (cI, 6, .inl t_kinds_v)), (t_winds, .inl (cI, 6, .inl t_winds_v)), (t_prices, .inl (cI, 6, .inl t_prices_v))] H := hP
  have hD : va_D A [(t_h, .inr (3, [.int 0, .int t_bars, .ref t_prices, .ref t_winds, .ref t_kinds, .ref t_looks, .ref t_noises, .ref t_repeats])), (r0_h, .inl (cI, r0_n, .inl r0_v)), (t_repeats, .inl (cI, 8, .inl t_repeats_v)), (t_noises, .inl (cI, 8, .inl t_noises_v)), (t_looks, .inl (cI, 6, .inl t_looks_v)), (t_kinds, .inl (cI, 6, .inl t_kinds_v)), (t_winds, .inl (cI, 6, .inl t_winds_v)), (t_prices, .inl (cI, 6, .inl t_prices_v))] := hD
  refine lv_aload_n hx hb dX3_read_5 rfl (lv_at hl 0 rfl) ?_
  refine lv_iconst (v := 0) hx hb dX3_read_6 (by decide) ?_
  refine va_put (D := (dC, dI)) (ci := 3) (v := .int 0) (ty := .int) (C := RX3) (T := TX3) (N := 8) hx hb hts hinX3 tyX3 tyX3_ok nmX3 hown hK hP hD hS 0 rfl rfl 1 (by decide) w2 (fun _ h9 => h9) rfl (by decide +kernel) rfl rfl (Nat.le_of_ble_eq_true rfl) dX3_read_7 (fun H locs hP hD hS => ?_)
  have hP : va_P (dC, dI) vwCl [(t_h, .inr (3, [.int 0, .int 0, .ref t_prices, .ref t_winds, .ref t_kinds, .ref t_looks, .ref t_noises, .ref t_repeats])), (r0_h, .inl (cI, r0_n, .inl r0_v)), (t_repeats, .inl (cI, 8, .inl t_repeats_v)), (t_noises, .inl (cI, 8, .inl t_noises_v)), (t_looks, .inl (cI, 6, .inl t_looks_v)), (t_kinds, .inl (cI, 6, .inl t_kinds_v)), (t_winds, .inl (cI, 6, .inl t_winds_v)), (t_prices, .inl (cI, 6, .inl t_prices_v))] H := hP
  have hD : va_D A [(t_h, .inr (3, [.int 0, .int 0, .ref t_prices, .ref t_winds, .ref t_kinds, .ref t_looks, .ref t_noises, .ref t_repeats])), (r0_h, .inl (cI, r0_n, .inl r0_v)), (t_repeats, .inl (cI, 8, .inl t_repeats_v)), (t_noises, .inl (cI, 8, .inl t_noises_v)), (t_looks, .inl (cI, 6, .inl t_looks_v)), (t_kinds, .inl (cI, 6, .inl t_kinds_v)), (t_winds, .inl (cI, 6, .inl t_winds_v)), (t_prices, .inl (cI, 6, .inl t_prices_v))] := hD
  refine lv_iload_n hx hb dX3_read_10 rfl (lv_at hl 2 rfl) ?_
  refine lv_iconst (v := 1) hx hb dX3_read_11 (by decide) ?_
  refine lv_icmp_lt (tgt := 25) hx hb dX3_read_12 (by decide) (fun c_12 => ?_) (fun c_12 => ?_)
  · have hu := hu.trans (if_pos c_12)
    refine lv_iconst (v := 0) hx hb dX3_read_25 (by decide) ?_
    subst hu
    exact hg_ri hx hb hr hlk rfl hP hD hS dX3_read_26
  · have hu := hu.trans (if_neg c_12)
    refine lv_aload_n hx hb dX3_read_15 rfl (lv_at hl 1 rfl) ?_
    refine lv_iconst (v := 0) hx hb dX3_read_16 (by decide) ?_
    obtain ⟨r1, er1, hu⟩ := lxb_o hu
    refine hg_ci (va_runSN (As := [.ref r0_h, .int 0]) (rest := []) ⟨hx, hb, hml, hown, hts⟩ (c_X4_at l dC dI cI cZ cM _ r0_h 0 r0_n r0_v hn r1 er1) ⟨va_cnB 2 hts gX3_read_X4_at_n37 rfl rfl rfl hN.1 w4 (by decide +kernel) ⟨Nat.le_of_ble_eq_true rfl, Nat.le_of_ble_eq_true rfl⟩, w3, trivial⟩ (hgPreS hP hD hK hN [1] rfl rfl) rfl rfl hl.1 rfl (lv_room (Nat.le_of_ble_eq_true rfl)) dX3_read_17 ⟨Nat.zero_le _, Nat.zero_le _⟩) hP hD hS hA (wr := [(t_h, .inr (3, [.int 0, .int 0, .ref t_prices, .ref t_winds, .ref t_kinds, .ref t_looks, .ref t_noises, .ref t_repeats])), (t_repeats, .inl (cI, 8, .inl t_repeats_v)), (t_noises, .inl (cI, 8, .inl t_noises_v)), (t_looks, .inl (cI, 6, .inl t_looks_v)), (t_kinds, .inl (cI, 6, .inl t_kinds_v)), (t_winds, .inl (cI, 6, .inl t_winds_v)), (t_prices, .inl (cI, 6, .inl t_prices_v))]) (wf := [(t_h, .inr (3, [.int 0, .int 0, .ref t_prices, .ref t_winds, .ref t_kinds, .ref t_looks, .ref t_noises, .ref t_repeats])), (r0_h, .inl (cI, r0_n, .inl r0_v)), (t_repeats, .inl (cI, 8, .inl t_repeats_v)), (t_noises, .inl (cI, 8, .inl t_noises_v)), (t_looks, .inl (cI, 6, .inl t_looks_v)), (t_kinds, .inl (cI, 6, .inl t_kinds_v)), (t_winds, .inl (cI, 6, .inl t_winds_v)), (t_prices, .inl (cI, 6, .inl t_prices_v))]) [1] [0, 2, 3, 4, 5, 6, 7] [0, 7, 1, 2, 3, 4, 5, 6] rfl rfl rfl (by decide) rfl rfl (fun H locs hP hD hS => ?_)
    refine lv_bipush (v := 79) hx hb dX3_read_20 (by decide) ?_
    refine lv_icmp_eq (tgt := 27) hx hb dX3_read_22 (by decide) (fun c_22 => ?_) (fun c_22 => ?_)
    · have hu := hu.trans (if_pos c_22)
      refine lv_iconst (v := 0) hx hb dX3_read_27 (by decide) ?_
      refine lv_istore_n (lv' := [(3, .int 0), (0, .ref t_h), (1, .ref r0_h), (2, .int x1)]) hx hb dX3_read_28 rfl hl (by decide) rfl (fun ls hl => ?_)
      refine lv_iconst (v := 0) hx hb dX3_read_29 (by decide) ?_
      refine lv_istore (lv' := [(4, .int 0), (3, .int 0), (0, .ref t_h), (1, .ref r0_h), (2, .int x1)]) hx hb dX3_read_30 hl (by decide) rfl (fun ls hl => ?_)
      refine lv_iconst (v := 1) hx hb dX3_read_32 (by decide) ?_
      refine lv_istore (lv' := [(5, .int 1), (4, .int 0), (3, .int 0), (0, .ref t_h), (1, .ref r0_h), (2, .int x1)]) hx hb dX3_read_33 hl (by decide) rfl (fun ls hl => ?_)
      refine hg_loopS (T := Int32 × Int32 × Int32 × Int32 × (Nat → Int32) × (Nat → Int32) × (Nat → Int32) × (Nat → Int32) × (Nat → Int32) × (Nat → Int32)) (N := (itn 1 x1)) (fun v35 => [(t_h, .inr (3, [.int v35.2.2.1, .int v35.2.2.2.1, .ref t_prices, .ref t_winds, .ref t_kinds, .ref t_looks, .ref t_noises, .ref t_repeats])), (r0_h, .inl (cI, r0_n, .inl r0_v)), (t_repeats, .inl (cI, 8, .inl v35.2.2.2.2.1)), (t_noises, .inl (cI, 8, .inl v35.2.2.2.2.2.1)), (t_looks, .inl (cI, 6, .inl v35.2.2.2.2.2.2.1)), (t_kinds, .inl (cI, 6, .inl v35.2.2.2.2.2.2.2.1)), (t_winds, .inl (cI, 6, .inl v35.2.2.2.2.2.2.2.2.1)), (t_prices, .inl (cI, 6, .inl v35.2.2.2.2.2.2.2.2.2))]) (fun k35 v35 => [(0, .ref t_h), (1, .ref r0_h), (2, .int x1), (3, .int v35.1), (4, .int v35.2.1), (5, .int (nI (k35 + 1)))]) (fun n35 k35 v35 => l_X3_read_35 x1 r0_n r0_v n35 k35 v35) (0, 0, 0, 0, t_repeats_v, t_noises_v, t_looks_v, t_kinds_v, t_winds_v, t_prices_v) hu ?_ ?_ hP hD hS (lv_sub hl [3, 4, 5, 2, 1, 0] rfl)
      · intro v35 hu H locs ls hP hD hS hl
        rw [l_X3_read_35] at hu
        have hP : va_P (dC, dI) vwCl [(t_h, .inr (3, [.int v35.2.2.1, .int v35.2.2.2.1, .ref t_prices, .ref t_winds, .ref t_kinds, .ref t_looks, .ref t_noises, .ref t_repeats])), (r0_h, .inl (cI, r0_n, .inl r0_v)), (t_repeats, .inl (cI, 8, .inl v35.2.2.2.2.1)), (t_noises, .inl (cI, 8, .inl v35.2.2.2.2.2.1)), (t_looks, .inl (cI, 6, .inl v35.2.2.2.2.2.2.1)), (t_kinds, .inl (cI, 6, .inl v35.2.2.2.2.2.2.2.1)), (t_winds, .inl (cI, 6, .inl v35.2.2.2.2.2.2.2.2.1)), (t_prices, .inl (cI, 6, .inl v35.2.2.2.2.2.2.2.2.2))] H := hP
        have hD : va_D A [(t_h, .inr (3, [.int v35.2.2.1, .int v35.2.2.2.1, .ref t_prices, .ref t_winds, .ref t_kinds, .ref t_looks, .ref t_noises, .ref t_repeats])), (r0_h, .inl (cI, r0_n, .inl r0_v)), (t_repeats, .inl (cI, 8, .inl v35.2.2.2.2.1)), (t_noises, .inl (cI, 8, .inl v35.2.2.2.2.2.1)), (t_looks, .inl (cI, 6, .inl v35.2.2.2.2.2.2.1)), (t_kinds, .inl (cI, 6, .inl v35.2.2.2.2.2.2.2.1)), (t_winds, .inl (cI, 6, .inl v35.2.2.2.2.2.2.2.2.1)), (t_prices, .inl (cI, 6, .inl v35.2.2.2.2.2.2.2.2.2))] := hD
        have hl : lv_has ls 8 [(0, .ref t_h), (1, .ref r0_h), (2, .int x1), (3, .int v35.1), (4, .int v35.2.1), (5, .int (nI ((itn 1 x1) + 1)))] := hl
        refine lv_iload hx hb dX3_read_35 (lv_at hl 5 rfl) ?_
        refine lv_iload_n hx hb dX3_read_37 rfl (lv_at hl 2 rfl) ?_
        refine lv_icmp_ge (tgt := 131) hx hb dX3_read_38 (by decide) (fun c_38 => ?_) (fun c_38 => absurd (hg_l10 (hg_nlt c_12)) c_38)
        refine lv_iload hx hb dX3_read_131 (lv_at hl 4 rfl) ?_
        refine lv_if_ne (tgt := 141) hx hb dX3_read_133 (by decide) (fun c_133 => ?_) (fun c_133 => ?_)
        · have hu := hu.trans (if_neg c_133)
          refine lv_iload_n hx hb dX3_read_141 rfl (lv_at hl 2 rfl) ?_
          subst hu
          exact hg_ri hx hb hr hlk rfl hP hD hS dX3_read_142
        · have hu := hu.trans (if_pos c_133)
          refine lv_bipush (v := (-9)) hx hb dX3_read_136 (by decide) ?_
          refine lv_goto (tgt := 142) hx hb dX3_read_138 (by decide) ?_
          subst hu
          exact hg_ri hx hb hr hlk rfl hP hD hS dX3_read_142
      · intro n35 k35 hk0 v35 hu ih H locs ls hP hD hS hl
        have hk : k35 < (itn 1 x1) := by omega
        rw [l_X3_read_35] at hu
        have hP : va_P (dC, dI) vwCl [(t_h, .inr (3, [.int v35.2.2.1, .int v35.2.2.2.1, .ref t_prices, .ref t_winds, .ref t_kinds, .ref t_looks, .ref t_noises, .ref t_repeats])), (r0_h, .inl (cI, r0_n, .inl r0_v)), (t_repeats, .inl (cI, 8, .inl v35.2.2.2.2.1)), (t_noises, .inl (cI, 8, .inl v35.2.2.2.2.2.1)), (t_looks, .inl (cI, 6, .inl v35.2.2.2.2.2.2.1)), (t_kinds, .inl (cI, 6, .inl v35.2.2.2.2.2.2.2.1)), (t_winds, .inl (cI, 6, .inl v35.2.2.2.2.2.2.2.2.1)), (t_prices, .inl (cI, 6, .inl v35.2.2.2.2.2.2.2.2.2))] H := hP
        have hD : va_D A [(t_h, .inr (3, [.int v35.2.2.1, .int v35.2.2.2.1, .ref t_prices, .ref t_winds, .ref t_kinds, .ref t_looks, .ref t_noises, .ref t_repeats])), (r0_h, .inl (cI, r0_n, .inl r0_v)), (t_repeats, .inl (cI, 8, .inl v35.2.2.2.2.1)), (t_noises, .inl (cI, 8, .inl v35.2.2.2.2.2.1)), (t_looks, .inl (cI, 6, .inl v35.2.2.2.2.2.2.1)), (t_kinds, .inl (cI, 6, .inl v35.2.2.2.2.2.2.2.1)), (t_winds, .inl (cI, 6, .inl v35.2.2.2.2.2.2.2.2.1)), (t_prices, .inl (cI, 6, .inl v35.2.2.2.2.2.2.2.2.2))] := hD
        have hl : lv_has ls 8 [(0, .ref t_h), (1, .ref r0_h), (2, .int x1), (3, .int v35.1), (4, .int v35.2.1), (5, .int (nI (k35 + 1)))] := hl
        refine lv_iload hx hb dX3_read_35 (lv_at hl 5 rfl) ?_
        refine lv_iload_n hx hb dX3_read_37 rfl (lv_at hl 2 rfl) ?_
        refine lv_icmp_ge (tgt := 131) hx hb dX3_read_38 (by decide) (fun c_38 => absurd c_38 (hg_l11 hk)) (fun c_38 => ?_)
        refine lv_aload_n hx hb dX3_read_41 rfl (lv_at hl 1 rfl) ?_
        refine lv_iload hx hb dX3_read_42 (lv_at hl 5 rfl) ?_
        obtain ⟨r2, er2, hu⟩ := lxb_o hu
        refine hg_ci (va_runSN (As := [.ref r0_h, .int (nI (k35 + 1))]) (rest := []) ⟨hx, hb, hml, hown, hts⟩ (c_X4_at l dC dI cI cZ cM _ r0_h (nI (k35 + 1)) r0_n r0_v hn r2 er2) ⟨va_cnB 2 hts gX3_read_X4_at_n37 rfl rfl rfl hN.1 w4 (by decide +kernel) ⟨Nat.le_of_ble_eq_true rfl, Nat.le_of_ble_eq_true rfl⟩, w3, trivial⟩ (hgPreS hP hD hK hN [1] rfl rfl) rfl rfl hl.1 rfl (lv_room (Nat.le_of_ble_eq_true rfl)) dX3_read_44 ⟨Nat.zero_le _, Nat.zero_le _⟩) hP hD hS hA (wr := [(t_h, .inr (3, [.int v35.2.2.1, .int v35.2.2.2.1, .ref t_prices, .ref t_winds, .ref t_kinds, .ref t_looks, .ref t_noises, .ref t_repeats])), (t_repeats, .inl (cI, 8, .inl v35.2.2.2.2.1)), (t_noises, .inl (cI, 8, .inl v35.2.2.2.2.2.1)), (t_looks, .inl (cI, 6, .inl v35.2.2.2.2.2.2.1)), (t_kinds, .inl (cI, 6, .inl v35.2.2.2.2.2.2.2.1)), (t_winds, .inl (cI, 6, .inl v35.2.2.2.2.2.2.2.2.1)), (t_prices, .inl (cI, 6, .inl v35.2.2.2.2.2.2.2.2.2))]) (wf := [(t_h, .inr (3, [.int v35.2.2.1, .int v35.2.2.2.1, .ref t_prices, .ref t_winds, .ref t_kinds, .ref t_looks, .ref t_noises, .ref t_repeats])), (r0_h, .inl (cI, r0_n, .inl r0_v)), (t_repeats, .inl (cI, 8, .inl v35.2.2.2.2.1)), (t_noises, .inl (cI, 8, .inl v35.2.2.2.2.2.1)), (t_looks, .inl (cI, 6, .inl v35.2.2.2.2.2.2.1)), (t_kinds, .inl (cI, 6, .inl v35.2.2.2.2.2.2.2.1)), (t_winds, .inl (cI, 6, .inl v35.2.2.2.2.2.2.2.2.1)), (t_prices, .inl (cI, 6, .inl v35.2.2.2.2.2.2.2.2.2))]) [1] [0, 2, 3, 4, 5, 6, 7] [0, 7, 1, 2, 3, 4, 5, 6] rfl rfl rfl (by decide) rfl rfl (fun H locs hP hD hS => ?_)
        refine lv_istore (lv' := [(6, .int r2), (0, .ref t_h), (1, .ref r0_h), (2, .int x1), (3, .int v35.1), (4, .int v35.2.1), (5, .int (nI (k35 + 1)))]) hx hb dX3_read_47 hl (by decide) rfl (fun ls hl => ?_)
        refine lv_iload hx hb dX3_read_49 (lv_at hl 5 rfl) ?_
        refine lv_if_ne (tgt := 83) hx hb dX3_read_51 (by decide) (fun c_51 => ?_) (fun c_51 => ?_)
        · have hu := hu.trans (if_neg c_51)
          refine lv_iload hx hb dX3_read_83 (lv_at hl 0 rfl) ?_
          refine lv_bipush (v := 48) hx hb dX3_read_85 (by decide) ?_
          refine lv_isub hx hb dX3_read_87 ?_
          refine lv_istore (lv' := [(7, .int (r2 - 48)), (6, .int r2), (0, .ref t_h), (1, .ref r0_h), (2, .int x1), (3, .int v35.1), (4, .int v35.2.1), (5, .int (nI (k35 + 1)))]) hx hb dX3_read_88 hl (by decide) rfl (fun ls hl => ?_)
          refine lv_iload_n hx hb dX3_read_90 rfl (lv_at hl 5 rfl) ?_
          refine lv_if_eq (tgt := 108) hx hb dX3_read_91 (by decide) (fun c_91 => ?_) (fun c_91 => ?_)
          · have hu := hu.trans (if_pos c_91)
            refine lv_aload_n hx hb dX3_read_108 rfl (lv_at hl 2 rfl) ?_
            refine lv_iload hx hb dX3_read_109 (lv_at hl 6 rfl) ?_
            refine lv_iload hx hb dX3_read_111 (lv_at hl 0 rfl) ?_
            obtain ⟨r3, er3, hu⟩ := lxb_o hu
            refine hg_ci (va_runV (As := [.int v35.2.1, .int (r2 - 48)]) (rest := []) ⟨hx, hb, hml, hown, hts⟩ (c_X3_takeBarFigure l dC dI cI cZ cM _ t_h v35.2.1 (r2 - 48) v35.2.2.1 v35.2.2.2.1 t_prices t_winds t_kinds t_looks t_noises t_repeats v35.2.2.2.2.1 v35.2.2.2.2.2.1 r3 er3) (cwV 2 hts gX3_read_X3_takeBarFigure rfl rfl rfl (by decide +kernel) ⟨Nat.le_of_ble_eq_true rfl, Nat.le_of_ble_eq_true rfl⟩) (hgPreV (C := RX3) (T := TX3) (N := 8) (ci := 3) (q0 := 0) hP hD hK hN [0, 2, 3] rfl rfl rfl rfl) rfl rfl hl.1 rfl (lv_room (Nat.le_of_ble_eq_true rfl)) dX3_read_113 ⟨Nat.zero_le _, Nat.zero_le _⟩) hP hD hS hA (wr := [(r0_h, .inl (cI, r0_n, .inl r0_v)), (t_looks, .inl (cI, 6, .inl v35.2.2.2.2.2.2.1)), (t_kinds, .inl (cI, 6, .inl v35.2.2.2.2.2.2.2.1)), (t_winds, .inl (cI, 6, .inl v35.2.2.2.2.2.2.2.2.1)), (t_prices, .inl (cI, 6, .inl v35.2.2.2.2.2.2.2.2.2))]) (wf := [(t_h, .inr (3, [.int v35.2.2.1, .int v35.2.2.2.1, .ref t_prices, .ref t_winds, .ref t_kinds, .ref t_looks, .ref t_noises, .ref t_repeats])), (r0_h, .inl (cI, r0_n, .inl r0_v)), (t_repeats, .inl (cI, 8, .inl r3.2.1)), (t_noises, .inl (cI, 8, .inl r3.2.2)), (t_looks, .inl (cI, 6, .inl v35.2.2.2.2.2.2.1)), (t_kinds, .inl (cI, 6, .inl v35.2.2.2.2.2.2.2.1)), (t_winds, .inl (cI, 6, .inl v35.2.2.2.2.2.2.2.2.1)), (t_prices, .inl (cI, 6, .inl v35.2.2.2.2.2.2.2.2.2))]) [0, 2, 3] [1, 4, 5, 6, 7] [5, 0, 6, 7, 1, 2, 3, 4] rfl rfl rfl (by decide) rfl rfl (fun H locs hP hD hS => ?_)
            refine lv_if_ne (tgt := 122) hx hb dX3_read_116 (by decide) (fun c_116 => ?_) (fun c_116 => ?_)
            · have hu := hu.trans (if_neg c_116)
              obtain ⟨y4, ey4, hu⟩ := lxb_o hu
              refine lv_iinc (v := y4) (lv' := [(4, .int y4), (7, .int (r2 - 48)), (6, .int r2), (0, .ref t_h), (1, .ref r0_h), (2, .int x1), (3, .int v35.1), (5, .int (nI (k35 + 1)))]) hx hb dX3_read_122 hl (k := 6) rfl ((congrArg (fun q : Int32 => v35.2.1 + q) (by decide : Int32.ofInt (-1) = (-1 : Int32))).trans ey4.symm) (by decide) rfl (fun ls hl => ?_)
              refine lv_iinc (v := nI ((k35 + 1) + 1)) (lv' := [(5, .int (nI ((k35 + 1) + 1))), (4, .int y4), (7, .int (r2 - 48)), (6, .int r2), (0, .ref t_h), (1, .ref r0_h), (2, .int x1), (3, .int v35.1)]) hx hb dX3_read_125 hl (k := 7) rfl (nI_1 (k35 + 1)) (by decide) rfl (fun ls hl => ?_)
              refine lv_goto (tgt := 35) hx hb dX3_read_128 (by decide) ?_
              exact ih _ hu _ _ _ hP hD hS (lv_sub hl [4, 5, 6, 7, 1, 0] rfl)
            · have hu := hu.trans (if_pos c_116)
              refine lv_iload hx hb dX3_read_119 (lv_at hl 7 rfl) ?_
              subst hu
              exact hg_ri hx hb hr hlk rfl hP hD hS dX3_read_121
          · have hu := hu.trans (if_neg c_91)
            refine lv_aload_n hx hb dX3_read_94 rfl (lv_at hl 2 rfl) ?_
            refine lv_iload hx hb dX3_read_95 (lv_at hl 6 rfl) ?_
            refine lv_iload hx hb dX3_read_97 (lv_at hl 0 rfl) ?_
            obtain ⟨r5, er5, hu⟩ := lxb_o hu
            refine hg_ci (va_runV (As := [.int v35.2.1, .int (r2 - 48)]) (rest := []) ⟨hx, hb, hml, hown, hts⟩ (c_X3_takePlayerFigure l dC dI cI cZ cM _ t_h v35.2.1 (r2 - 48) v35.2.2.1 v35.2.2.2.1 t_prices t_winds t_kinds t_looks t_noises t_repeats v35.2.2.2.2.2.2.1 v35.2.2.2.2.2.2.2.1 v35.2.2.2.2.2.2.2.2.1 v35.2.2.2.2.2.2.2.2.2 r5 er5) (cwV 2 hts gX3_read_X3_takePlayerFigure rfl rfl rfl (by decide +kernel) ⟨Nat.le_of_ble_eq_true rfl, Nat.le_of_ble_eq_true rfl⟩) (hgPreV (C := RX3) (T := TX3) (N := 8) (ci := 3) (q0 := 0) hP hD hK hN [0, 4, 5, 6, 7] rfl rfl rfl rfl) rfl rfl hl.1 rfl (lv_room (Nat.le_of_ble_eq_true rfl)) dX3_read_99 ⟨Nat.zero_le _, Nat.zero_le _⟩) hP hD hS hA (wr := [(r0_h, .inl (cI, r0_n, .inl r0_v)), (t_repeats, .inl (cI, 8, .inl v35.2.2.2.2.1)), (t_noises, .inl (cI, 8, .inl v35.2.2.2.2.2.1))]) (wf := [(t_h, .inr (3, [.int v35.2.2.1, .int v35.2.2.2.1, .ref t_prices, .ref t_winds, .ref t_kinds, .ref t_looks, .ref t_noises, .ref t_repeats])), (r0_h, .inl (cI, r0_n, .inl r0_v)), (t_repeats, .inl (cI, 8, .inl v35.2.2.2.2.1)), (t_noises, .inl (cI, 8, .inl v35.2.2.2.2.2.1)), (t_looks, .inl (cI, 6, .inl r5.2.1)), (t_kinds, .inl (cI, 6, .inl r5.2.2.1)), (t_winds, .inl (cI, 6, .inl r5.2.2.2.1)), (t_prices, .inl (cI, 6, .inl r5.2.2.2.2))]) [0, 4, 5, 6, 7] [1, 2, 3] [3, 0, 1, 2, 4, 5, 6, 7] rfl rfl rfl (by decide) rfl rfl (fun H locs hP hD hS => ?_)
            refine lv_if_eq (tgt := 119) hx hb dX3_read_102 (by decide) (fun c_102 => ?_) (fun c_102 => ?_)
            · have hu := hu.trans (if_pos c_102)
              refine lv_iload hx hb dX3_read_119 (lv_at hl 7 rfl) ?_
              subst hu
              exact hg_ri hx hb hr hlk rfl hP hD hS dX3_read_121
            · have hu := hu.trans (if_neg c_102)
              refine lv_goto (tgt := 122) hx hb dX3_read_105 (by decide) ?_
              obtain ⟨y6, ey6, hu⟩ := lxb_o hu
              refine lv_iinc (v := y6) (lv' := [(4, .int y6), (7, .int (r2 - 48)), (6, .int r2), (0, .ref t_h), (1, .ref r0_h), (2, .int x1), (3, .int v35.1), (5, .int (nI (k35 + 1)))]) hx hb dX3_read_122 hl (k := 6) rfl ((congrArg (fun q : Int32 => v35.2.1 + q) (by decide : Int32.ofInt (-1) = (-1 : Int32))).trans ey6.symm) (by decide) rfl (fun ls hl => ?_)
              refine lv_iinc (v := nI ((k35 + 1) + 1)) (lv' := [(5, .int (nI ((k35 + 1) + 1))), (4, .int y6), (7, .int (r2 - 48)), (6, .int r2), (0, .ref t_h), (1, .ref r0_h), (2, .int x1), (3, .int v35.1)]) hx hb dX3_read_125 hl (k := 7) rfl (nI_1 (k35 + 1)) (by decide) rfl (fun ls hl => ?_)
              refine lv_goto (tgt := 35) hx hb dX3_read_128 (by decide) ?_
              exact ih _ hu _ _ _ hP hD hS (lv_sub hl [4, 5, 6, 7, 1, 0] rfl)
        · have hu := hu.trans (if_pos c_51)
          refine lv_iload hx hb dX3_read_54 (lv_at hl 0 rfl) ?_
          refine lv_bipush (v := 80) hx hb dX3_read_56 (by decide) ?_
          obtain ⟨z7, ez7, hu⟩ := lxb_o hu
          refine hg_cut (D := (dC, dI)) (A0 := A) (H0 := s.heap) (ws := [(t_h, .inr (3, [.int v35.2.2.1, .int v35.2.2.2.1, .ref t_prices, .ref t_winds, .ref t_kinds, .ref t_looks, .ref t_noises, .ref t_repeats])), (r0_h, .inl (cI, r0_n, .inl r0_v)), (t_repeats, .inl (cI, 8, .inl v35.2.2.2.2.1)), (t_noises, .inl (cI, 8, .inl v35.2.2.2.2.2.1)), (t_looks, .inl (cI, 6, .inl v35.2.2.2.2.2.2.1)), (t_kinds, .inl (cI, 6, .inl v35.2.2.2.2.2.2.2.1)), (t_winds, .inl (cI, 6, .inl v35.2.2.2.2.2.2.2.2.1)), (t_prices, .inl (cI, 6, .inl v35.2.2.2.2.2.2.2.2.2))]) (g := F0 m 66 ls [.int z7]) ?_ (fun hJ => ?_)
          · intro H locs hP hD hS
            refine lv_istore_n (lv' := [(3, .int z7), (6, .int r2), (0, .ref t_h), (1, .ref r0_h), (2, .int x1), (4, .int v35.2.1), (5, .int (nI (k35 + 1)))]) hx hb dX3_read_66 rfl hl (by decide) rfl (fun ls hl => ?_)
            refine lv_aload_n hx hb dX3_read_67 rfl (lv_at hl 2 rfl) ?_
            refine lv_iload hx hb dX3_read_68 (lv_at hl 1 rfl) ?_
            obtain ⟨r8, er8, hu⟩ := lxb_o hu
            refine hg_ci (va_runV (As := [.int r2]) (rest := []) ⟨hx, hb, hml, hown, hts⟩ (c_X3_figuresOfNewPart l dC dI cI cZ cM _ t_h r2 v35.2.2.1 v35.2.2.2.1 t_prices t_winds t_kinds t_looks t_noises t_repeats r8 er8) (cwV 1 hts gX3_read_X3_figuresOfNewPart rfl rfl rfl (by decide +kernel) ⟨Nat.le_of_ble_eq_true rfl, Nat.le_of_ble_eq_true rfl⟩) (hgPreV (C := RX3) (T := TX3) (N := 8) (ci := 3) (q0 := 0) hP hD hK hN [0] rfl rfl rfl rfl) rfl rfl hl.1 rfl (lv_room (Nat.le_of_ble_eq_true rfl)) dX3_read_70 ⟨Nat.zero_le _, Nat.zero_le _⟩) hP hD hS hA (wr := [(r0_h, .inl (cI, r0_n, .inl r0_v)), (t_repeats, .inl (cI, 8, .inl v35.2.2.2.2.1)), (t_noises, .inl (cI, 8, .inl v35.2.2.2.2.2.1)), (t_looks, .inl (cI, 6, .inl v35.2.2.2.2.2.2.1)), (t_kinds, .inl (cI, 6, .inl v35.2.2.2.2.2.2.2.1)), (t_winds, .inl (cI, 6, .inl v35.2.2.2.2.2.2.2.2.1)), (t_prices, .inl (cI, 6, .inl v35.2.2.2.2.2.2.2.2.2))]) (wf := [(t_h, .inr (3, [.int r8.2.1, .int r8.2.2, .ref t_prices, .ref t_winds, .ref t_kinds, .ref t_looks, .ref t_noises, .ref t_repeats])), (r0_h, .inl (cI, r0_n, .inl r0_v)), (t_repeats, .inl (cI, 8, .inl v35.2.2.2.2.1)), (t_noises, .inl (cI, 8, .inl v35.2.2.2.2.2.1)), (t_looks, .inl (cI, 6, .inl v35.2.2.2.2.2.2.1)), (t_kinds, .inl (cI, 6, .inl v35.2.2.2.2.2.2.2.1)), (t_winds, .inl (cI, 6, .inl v35.2.2.2.2.2.2.2.2.1)), (t_prices, .inl (cI, 6, .inl v35.2.2.2.2.2.2.2.2.2))]) [0] [1, 2, 3, 4, 5, 6, 7] [7, 0, 1, 2, 3, 4, 5, 6] rfl rfl rfl (by decide) rfl rfl (fun H locs hP hD hS => ?_)
            refine lv_istore (lv' := [(4, .int r8.1), (3, .int z7), (6, .int r2), (0, .ref t_h), (1, .ref r0_h), (2, .int x1), (5, .int (nI (k35 + 1)))]) hx hb dX3_read_73 hl (by decide) rfl (fun ls hl => ?_)
            refine lv_iload hx hb dX3_read_75 (lv_at hl 0 rfl) ?_
            refine lv_if_ne (tgt := 125) hx hb dX3_read_77 (by decide) (fun c_77 => ?_) (fun c_77 => ?_)
            · have hu := hu.trans (if_neg c_77)
              refine lv_iinc (v := nI ((k35 + 1) + 1)) (lv' := [(5, .int (nI ((k35 + 1) + 1))), (4, .int r8.1), (3, .int z7), (6, .int r2), (0, .ref t_h), (1, .ref r0_h), (2, .int x1)]) hx hb dX3_read_125 hl (k := 6) rfl (nI_1 (k35 + 1)) (by decide) rfl (fun ls hl => ?_)
              refine lv_goto (tgt := 35) hx hb dX3_read_128 (by decide) ?_
              exact ih _ hu _ _ _ hP hD hS (lv_sub hl [4, 5, 6, 2, 1, 0] rfl)
            · have hu := hu.trans (if_pos c_77)
              refine lv_iload hx hb dX3_read_80 (lv_at hl 6 rfl) ?_
              subst hu
              exact hg_ri hx hb hr hlk rfl hP hD hS dX3_read_82
          · refine lv_icmp_ne (tgt := 65) hx hb dX3_read_58 (by decide) (fun c_58 => ?_) (fun c_58 => ?_)
            · have ez7 := ez7.trans (if_neg c_58)
              refine lv_iconst (v := 0) hx hb dX3_read_65 (by decide) ?_
              subst ez7
              exact hJ _ _ hP hD hS
            · have ez7 := ez7.trans (if_pos c_58)
              refine lv_iconst (v := 1) hx hb dX3_read_61 (by decide) ?_
              refine lv_goto (tgt := 66) hx hb dX3_read_62 (by decide) ?_
              subst ez7
              exact hJ _ _ hP hD hS
    · have hu := hu.trans (if_neg c_22)
      refine lv_iconst (v := 0) hx hb dX3_read_25 (by decide) ?_
      subst hu
      exact hg_ri hx hb hr hlk rfl hP hD hS dX3_read_26
