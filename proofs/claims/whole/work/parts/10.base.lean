def f_X4_at (x1 : Int32) (r0_n : Nat) (r0_v : Nat → Int32) : Int32 :=
  if x1 < 0 then 0
  else if (nI r0_n) ≤ x1 then 0
   else (r0_v (Int32.toNatClampNeg x1))

def f_X4_put (x1 : Int32) (x2 : Int32) (r0_n : Nat) (r0_v : Nat → Int32) : (Nat → Int32) :=
  if x1 < 0 then r0_v
  else if (nI r0_n) ≤ x1 then r0_v
   else (upd r0_v (Int32.toNatClampNeg x1) x2)

def f_J6_bitCount (x0 : Int32) : Int32 :=
  lxb ((x0 - (((Int32.toUInt32 x0 >>> (Int32.toUInt32 1 &&& Int32.toUInt32 31)).toInt32) &&& 1431655765))) (fun y1 =>
  lxb (((y1 &&& 858993459) + (((Int32.toUInt32 y1 >>> (Int32.toUInt32 2 &&& Int32.toUInt32 31)).toInt32) &&& 858993459))) (fun y2 =>
   lxb (((y2 + ((Int32.toUInt32 y2 >>> (Int32.toUInt32 4 &&& Int32.toUInt32 31)).toInt32)) &&& 252645135)) (fun y3 =>
    lxb ((y3 + ((Int32.toUInt32 y3 >>> (Int32.toUInt32 8 &&& Int32.toUInt32 31)).toInt32))) (fun y4 =>
     lxb ((y4 + ((Int32.toUInt32 y4 >>> (Int32.toUInt32 16 &&& Int32.toUInt32 31)).toInt32))) (fun y5 =>
      (y5 &&& 63))))))

def f_J6_compare (x0 : Int32) (x1 : Int32) : Int32 :=
  if x1 ≤ x0 then (if x0 = x1 then 0
   else 1)
  else (-1)
set_option maxHeartbeats 4000000 in
set_option maxRecDepth 100000 in
theorem c_X4_at (l : Launch) (dC : Nat → ClassId) (dI : Nat → Nat → Nat) (cI cZ cM : ClassId) (sz : Nat) (r0_h : Nat) (x1 : Int32) (r0_n : Nat) (r0_v : Nat → Int32) (hn : r0_n < 2 ^ 31) (u : Int32) (hu : u = f_X4_at x1 r0_n r0_v) : Met l yX4_at wsX4_at { frames := 0, cells := 0, slots := 0, locals := 0 } (hgPc [.ref r0_h, .int x1] (dC, dI) cI cZ cM [(r0_h, .inl (cI, r0_n, .inl r0_v))] sz) (hgQi (dC, dI) u [(r0_h, .inl (cI, r0_n, .inl r0_v))] (va_A [(r0_h, .inl (cI, r0_n, .inl r0_v))] sz)) 0 0 (va_A [(r0_h, .inl (cI, r0_n, .inl r0_v))] sz) := by
  refine hg_ofW (cc := cX4_at) (maxL := 2) (ret := (some .int)) (own := RX4) (fun A => hgQi (dC, dI) u [(r0_h, .inl (cI, r0_n, .inl r0_v))] A) rfl (by decide) rfl (Nat.le_of_ble_eq_true rfl) ?_
  intro p e s m below meth c ls A hsz hx hb hr hml hown hts hlk hnm hK hN hA hP hD hS hl
  subst hsz
  have hl : lv_has ls 2 [(0, .ref r0_h), (1, .int x1)] := hl
  unfold f_X4_at at hu
  refine lv_iload_n hx hb dX4_at_0 rfl (lv_at hl 1 rfl) ?_
  refine lv_if_lt (tgt := 16) hx hb dX4_at_1 (by decide) (fun c_1 => ?_) (fun c_1 => ?_)
  · have hu := hu.trans (if_pos c_1)
    refine lv_iconst (v := 0) hx hb dX4_at_16 (by decide) ?_
    subst hu
    exact hg_ri hx hb hr hlk rfl hP hD hS dX4_at_17
  · have hu := hu.trans (if_neg c_1)
    refine lv_iload_n hx hb dX4_at_4 rfl (lv_at hl 1 rfl) ?_
    refine lv_aload_n hx hb dX4_at_5 rfl (lv_at hl 0 rfl) ?_
    refine va_alen (v := nI r0_n) hx hb hK hP 0 0 rfl rfl rfl dX4_at_6 ?_
    refine lv_icmp_ge (tgt := 16) hx hb dX4_at_7 (by decide) (fun c_7 => ?_) (fun c_7 => ?_)
    · have hu := hu.trans (if_pos c_7)
      refine lv_iconst (v := 0) hx hb dX4_at_16 (by decide) ?_
      subst hu
      exact hg_ri hx hb hr hlk rfl hP hD hS dX4_at_17
    · have hu := hu.trans (if_neg c_7)
      refine lv_aload_n hx hb dX4_at_10 rfl (lv_at hl 0 rfl) ?_
      refine lv_iload_n hx hb dX4_at_11 rfl (lv_at hl 1 rfl) ?_
      refine va_iald hx hb hK hP 0 0 rfl rfl (n := r0_n) (f := r0_v) (hg_in2 (hg_nlt c_1) (hg_nle c_7) hn) dX4_at_12 ?_
      refine lv_goto (tgt := 17) hx hb dX4_at_13 (by decide) ?_
      subst hu
      exact hg_ri hx hb hr hlk rfl hP hD hS dX4_at_17

set_option maxHeartbeats 4000000 in
set_option maxRecDepth 100000 in
theorem c_X4_put (l : Launch) (dC : Nat → ClassId) (dI : Nat → Nat → Nat) (cI cZ cM : ClassId) (sz : Nat) (r0_h : Nat) (x1 : Int32) (x2 : Int32) (r0_n : Nat) (r0_v : Nat → Int32) (hn : r0_n < 2 ^ 31) (u : (Nat → Int32)) (hu : u = f_X4_put x1 x2 r0_n r0_v) : Met l yX4_put wsX4_put { frames := 0, cells := 0, slots := 0, locals := 0 } (hgPc [.ref r0_h, .int x1, .int x2] (dC, dI) cI cZ cM [(r0_h, .inl (cI, r0_n, .inl r0_v))] sz) (hgQv (dC, dI) [(r0_h, .inl (cI, r0_n, .inl u))] (va_A [(r0_h, .inl (cI, r0_n, .inl r0_v))] sz)) 0 0 (va_A [(r0_h, .inl (cI, r0_n, .inl r0_v))] sz) := by
  refine hg_ofW (cc := cX4_put) (maxL := 3) (ret := none) (own := RX4) (fun A => hgQv (dC, dI) [(r0_h, .inl (cI, r0_n, .inl u))] A) rfl (by decide) rfl (Nat.le_of_ble_eq_true rfl) ?_
  intro p e s m below meth c ls A hsz hx hb hr hml hown hts hlk hnm hK hN hA hP hD hS hl
  subst hsz
  have hl : lv_has ls 3 [(0, .ref r0_h), (1, .int x1), (2, .int x2)] := hl
  unfold f_X4_put at hu
  refine lv_iload_n hx hb dX4_put_0 rfl (lv_at hl 1 rfl) ?_
  refine lv_if_lt (tgt := 14) hx hb dX4_put_1 (by decide) (fun c_1 => ?_) (fun c_1 => ?_)
  · have hu := hu.trans (if_pos c_1)
    subst hu
    exact hg_rv hx hb hr hlk hP hD hS dX4_put_14
  · have hu := hu.trans (if_neg c_1)
    refine lv_iload_n hx hb dX4_put_4 rfl (lv_at hl 1 rfl) ?_
    refine lv_aload_n hx hb dX4_put_5 rfl (lv_at hl 0 rfl) ?_
    refine va_alen (v := nI r0_n) hx hb hK hP 0 0 rfl rfl rfl dX4_put_6 ?_
    refine lv_icmp_ge (tgt := 14) hx hb dX4_put_7 (by decide) (fun c_7 => ?_) (fun c_7 => ?_)
    · have hu := hu.trans (if_pos c_7)
      subst hu
      exact hg_rv hx hb hr hlk hP hD hS dX4_put_14
    · have hu := hu.trans (if_neg c_7)
      refine lv_aload_n hx hb dX4_put_10 rfl (lv_at hl 0 rfl) ?_
      refine lv_iload_n hx hb dX4_put_11 rfl (lv_at hl 1 rfl) ?_
      refine lv_iload_n hx hb dX4_put_12 rfl (lv_at hl 2 rfl) ?_
      refine va_iast hx hb hK hP hD hS 0 0 rfl rfl (n := r0_n) (f := r0_v) (hg_in2 (hg_nlt c_1) (hg_nle c_7) hn) dX4_put_13 (fun H locs hP hD hS => ?_)
      have hP : va_P (dC, dI) vwCl [(r0_h, .inl (cI, r0_n, .inl (upd r0_v (Int32.toNatClampNeg x1) x2)))] H := hP
      have hD : va_D A [(r0_h, .inl (cI, r0_n, .inl (upd r0_v (Int32.toNatClampNeg x1) x2)))] := hD
      subst hu
      exact hg_rv hx hb hr hlk hP hD hS dX4_put_14

set_option maxHeartbeats 4000000 in
set_option maxRecDepth 100000 in
theorem c_J6_bitCount (l : Launch) (dC : Nat → ClassId) (dI : Nat → Nat → Nat) (cI cZ cM : ClassId) (sz : Nat) (x0 : Int32) (u : Int32) (hu : u = f_J6_bitCount x0) : Met l yJ6_bitCount_0f7a4 wsJ6_bitCount_0f7a4 { frames := 0, cells := 0, slots := 0, locals := 0 } (hgPc [.int x0] (dC, dI) cI cZ cM [] sz) (hgQi (dC, dI) u [] (va_A [] sz)) 0 0 (va_A [] sz) := by
  refine hg_ofW (cc := cJ6_bitCount_0f7a4) (maxL := 1) (ret := (some .int)) (own := RJ6) (fun A => hgQi (dC, dI) u [] A) rfl (by decide) rfl (Nat.le_of_ble_eq_true rfl) ?_
  intro p e s m below meth c ls A hsz hx hb hr hml hown hts hlk hnm hK hN hA hP hD hS hl
  subst hsz
  have w1 := hts (.constant RJ6 265 (1431655765)) (List.mem_of_getElem? (i := 1) rfl)
  have w2 := hts (.constant RJ6 266 (858993459)) (List.mem_of_getElem? (i := 2) rfl)
  have w3 := hts (.constant RJ6 267 (252645135)) (List.mem_of_getElem? (i := 3) rfl)
  have hl : lv_has ls 1 [(0, .int x0)] := hl
  unfold f_J6_bitCount at hu
  refine lv_iload_n hx hb dJ6_bitCount_0f7a4_0 rfl (lv_at hl 0 rfl) ?_
  refine lv_iload_n hx hb dJ6_bitCount_0f7a4_1 rfl (lv_at hl 0 rfl) ?_
  refine lv_iconst (v := 1) hx hb dJ6_bitCount_0f7a4_2 (by decide) ?_
  refine lv_iushr (v := ((Int32.toUInt32 x0 >>> (Int32.toUInt32 1 &&& Int32.toUInt32 31)).toInt32)) hx hb dJ6_bitCount_0f7a4_3 rfl ?_
  refine lv_ldcw (v := 1431655765) hx hb hown w1 dJ6_bitCount_0f7a4_4 ?_
  refine lv_iand hx hb dJ6_bitCount_0f7a4_7 ?_
  refine lv_isub hx hb dJ6_bitCount_0f7a4_8 ?_
  obtain ⟨y1, ey1, hu⟩ := lxb_o hu
  refine lv_topi (fun z ez => ?_)
  obtain rfl : y1 = z := ey1.trans ez.symm
  refine lv_istore_n (lv' := [(0, .int y1)]) hx hb dJ6_bitCount_0f7a4_9 rfl hl (by decide) rfl (fun ls hl => ?_)
  refine lv_iload_n hx hb dJ6_bitCount_0f7a4_10 rfl (lv_at hl 0 rfl) ?_
  refine lv_ldcw (v := 858993459) hx hb hown w2 dJ6_bitCount_0f7a4_11 ?_
  refine lv_iand hx hb dJ6_bitCount_0f7a4_14 ?_
  refine lv_iload_n hx hb dJ6_bitCount_0f7a4_15 rfl (lv_at hl 0 rfl) ?_
  refine lv_iconst (v := 2) hx hb dJ6_bitCount_0f7a4_16 (by decide) ?_
  refine lv_iushr (v := ((Int32.toUInt32 y1 >>> (Int32.toUInt32 2 &&& Int32.toUInt32 31)).toInt32)) hx hb dJ6_bitCount_0f7a4_17 rfl ?_
  refine lv_ldcw (v := 858993459) hx hb hown w2 dJ6_bitCount_0f7a4_18 ?_
  refine lv_iand hx hb dJ6_bitCount_0f7a4_21 ?_
  refine lv_iadd hx hb dJ6_bitCount_0f7a4_22 ?_
  obtain ⟨y2, ey2, hu⟩ := lxb_o hu
  refine lv_topi (fun z ez => ?_)
  obtain rfl : y2 = z := ey2.trans ez.symm
  refine lv_istore_n (lv' := [(0, .int y2)]) hx hb dJ6_bitCount_0f7a4_23 rfl hl (by decide) rfl (fun ls hl => ?_)
  refine lv_iload_n hx hb dJ6_bitCount_0f7a4_24 rfl (lv_at hl 0 rfl) ?_
  refine lv_iload_n hx hb dJ6_bitCount_0f7a4_25 rfl (lv_at hl 0 rfl) ?_
  refine lv_iconst (v := 4) hx hb dJ6_bitCount_0f7a4_26 (by decide) ?_
  refine lv_iushr (v := ((Int32.toUInt32 y2 >>> (Int32.toUInt32 4 &&& Int32.toUInt32 31)).toInt32)) hx hb dJ6_bitCount_0f7a4_27 rfl ?_
  refine lv_iadd hx hb dJ6_bitCount_0f7a4_28 ?_
  refine lv_ldcw (v := 252645135) hx hb hown w3 dJ6_bitCount_0f7a4_29 ?_
  refine lv_iand hx hb dJ6_bitCount_0f7a4_32 ?_
  obtain ⟨y3, ey3, hu⟩ := lxb_o hu
  refine lv_topi (fun z ez => ?_)
  obtain rfl : y3 = z := ey3.trans ez.symm
  refine lv_istore_n (lv' := [(0, .int y3)]) hx hb dJ6_bitCount_0f7a4_33 rfl hl (by decide) rfl (fun ls hl => ?_)
  refine lv_iload_n hx hb dJ6_bitCount_0f7a4_34 rfl (lv_at hl 0 rfl) ?_
  refine lv_iload_n hx hb dJ6_bitCount_0f7a4_35 rfl (lv_at hl 0 rfl) ?_
  refine lv_bipush (v := 8) hx hb dJ6_bitCount_0f7a4_36 (by decide) ?_
  refine lv_iushr (v := ((Int32.toUInt32 y3 >>> (Int32.toUInt32 8 &&& Int32.toUInt32 31)).toInt32)) hx hb dJ6_bitCount_0f7a4_38 rfl ?_
  refine lv_iadd hx hb dJ6_bitCount_0f7a4_39 ?_
  obtain ⟨y4, ey4, hu⟩ := lxb_o hu
  refine lv_topi (fun z ez => ?_)
  obtain rfl : y4 = z := ey4.trans ez.symm
  refine lv_istore_n (lv' := [(0, .int y4)]) hx hb dJ6_bitCount_0f7a4_40 rfl hl (by decide) rfl (fun ls hl => ?_)
  refine lv_iload_n hx hb dJ6_bitCount_0f7a4_41 rfl (lv_at hl 0 rfl) ?_
  refine lv_iload_n hx hb dJ6_bitCount_0f7a4_42 rfl (lv_at hl 0 rfl) ?_
  refine lv_bipush (v := 16) hx hb dJ6_bitCount_0f7a4_43 (by decide) ?_
  refine lv_iushr (v := ((Int32.toUInt32 y4 >>> (Int32.toUInt32 16 &&& Int32.toUInt32 31)).toInt32)) hx hb dJ6_bitCount_0f7a4_45 rfl ?_
  refine lv_iadd hx hb dJ6_bitCount_0f7a4_46 ?_
  obtain ⟨y5, ey5, hu⟩ := lxb_o hu
  refine lv_topi (fun z ez => ?_)
  obtain rfl : y5 = z := ey5.trans ez.symm
  refine lv_istore_n (lv' := [(0, .int y5)]) hx hb dJ6_bitCount_0f7a4_47 rfl hl (by decide) rfl (fun ls hl => ?_)
  refine lv_iload_n hx hb dJ6_bitCount_0f7a4_48 rfl (lv_at hl 0 rfl) ?_
  refine lv_bipush (v := 63) hx hb dJ6_bitCount_0f7a4_49 (by decide) ?_
  refine lv_iand hx hb dJ6_bitCount_0f7a4_51 ?_
  subst hu
  exact hg_ri hx hb hr hlk rfl hP hD hS dJ6_bitCount_0f7a4_52

set_option maxHeartbeats 4000000 in
set_option maxRecDepth 100000 in
theorem c_J6_compare (l : Launch) (dC : Nat → ClassId) (dI : Nat → Nat → Nat) (cI cZ cM : ClassId) (sz : Nat) (x0 : Int32) (x1 : Int32) (u : Int32) (hu : u = f_J6_compare x0 x1) : Met l yJ6_compare_7cf53 wsJ6_compare_7cf53 { frames := 0, cells := 0, slots := 0, locals := 0 } (hgPc [.int x0, .int x1] (dC, dI) cI cZ cM [] sz) (hgQi (dC, dI) u [] (va_A [] sz)) 0 0 (va_A [] sz) := by
  refine hg_ofW (cc := cJ6_compare_7cf53) (maxL := 2) (ret := (some .int)) (own := RJ6) (fun A => hgQi (dC, dI) u [] A) rfl (by decide) rfl (Nat.le_of_ble_eq_true rfl) ?_
  intro p e s m below meth c ls A hsz hx hb hr hml hown hts hlk hnm hK hN hA hP hD hS hl
  subst hsz
  have hl : lv_has ls 2 [(0, .int x0), (1, .int x1)] := hl
  unfold f_J6_compare at hu
  refine lv_iload_n hx hb dJ6_compare_7cf53_0 rfl (lv_at hl 0 rfl) ?_
  refine lv_iload_n hx hb dJ6_compare_7cf53_1 rfl (lv_at hl 1 rfl) ?_
  refine lv_icmp_ge (tgt := 9) hx hb dJ6_compare_7cf53_2 (by decide) (fun c_2 => ?_) (fun c_2 => ?_)
  · have hu := hu.trans (if_pos c_2)
    refine lv_iload_n hx hb dJ6_compare_7cf53_9 rfl (lv_at hl 0 rfl) ?_
    refine lv_iload_n hx hb dJ6_compare_7cf53_10 rfl (lv_at hl 1 rfl) ?_
    refine lv_icmp_ne (tgt := 18) hx hb dJ6_compare_7cf53_11 (by decide) (fun c_11 => ?_) (fun c_11 => ?_)
    · have hu := hu.trans (if_neg c_11)
      refine lv_iconst (v := 1) hx hb dJ6_compare_7cf53_18 (by decide) ?_
      subst hu
      exact hg_ri hx hb hr hlk rfl hP hD hS dJ6_compare_7cf53_19
    · have hu := hu.trans (if_pos c_11)
      refine lv_iconst (v := 0) hx hb dJ6_compare_7cf53_14 (by decide) ?_
      refine lv_goto (tgt := 19) hx hb dJ6_compare_7cf53_15 (by decide) ?_
      subst hu
      exact hg_ri hx hb hr hlk rfl hP hD hS dJ6_compare_7cf53_19
  · have hu := hu.trans (if_neg c_2)
    refine lv_iconst (v := (-1)) hx hb dJ6_compare_7cf53_5 (by decide) ?_
    refine lv_goto (tgt := 19) hx hb dJ6_compare_7cf53_6 (by decide) ?_
    subst hu
    exact hg_ri hx hb hr hlk rfl hP hD hS dJ6_compare_7cf53_19
