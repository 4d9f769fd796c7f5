/-! nights and the loudest rest -/
def nC (t_players : Int32) (t_bars : Int32) (t_noises_v : Nat → Int32) (t_kinds_v : Nat → Int32) (t_looks_v : Nat → Int32) (t_repeats_v : Nat → Int32) (t_winds_v : Nat → Int32) (t_prices_v : Nat → Int32) (y9 : Int64) (v29 : Int32 × Int64 × Int32 × Int32 × Int32 × Int32 × Int32 × Int32 × (Nat → Int32)) : Int32 × Int64 × Int32 × Int32 × Int32 × Int32 × Int32 × Int32 × (Nat → Int32) :=
  lxb (f_X2_doByChance (Int64.toInt32 (((Int64.toUInt64 y9 >>> ((Int32.toInt64 33).toUInt64 &&& Int64.toUInt64 63)).toInt64) - ((Int64.toUInt64 y9 >>> ((Int32.toInt64 33).toUInt64 &&& Int64.toUInt64 63)).toInt64) / 26 * 26)) v29.2.2.1 v29.2.2.2.1 v29.2.2.2.2.1 v29.2.2.2.2.2.1 v29.2.2.2.2.2.2.1 v29.2.2.2.2.2.2.2.1 t_players t_bars t_noises_v t_kinds_v v29.2.2.2.2.2.2.2.2 t_looks_v t_repeats_v t_winds_v t_prices_v) (fun r3 =>
   lxb (f_X2_howManyPlay r3.1) (fun r4 =>
    ((v29.1 + r4), y9, r3.1, r3.2.1, r3.2.2.1, r3.2.2.2.1, r3.2.2.2.2.1, r3.2.2.2.2.2.1, r3.2.2.2.2.2.2)))
def nM (o_players : Int32) (o_bars : Int32) (o_noise_v : Nat → Int32) (o_kind_v : Nat → Int32) (o_looks_v : Nat → Int32) (o_repeat_v : Nat → Int32) (o_price_v : Nat → Int32) (o_breath_v : Nat → Int32) (y9 : Int64) (v23 : Int32 × Int64 × (Nat → Int32)) : Int32 × Int64 × (Nat → Int32) :=
  lxb y9 (fun y4 =>
  lxb ((Int64.toInt32 (((Int64.toUInt64 y4 >>> ((Int32.toInt64 33).toUInt64 &&& Int64.toUInt64 63)).toInt64) - ((Int64.toUInt64 y4 >>> ((Int32.toInt64 33).toUInt64 &&& Int64.toUInt64 63)).toInt64) / 26 * 26))) (fun y5 =>
   if y5 ≤ 15 then (if y5 = 15 then (lxb (f_X5_beginOn 1 v23.2.2) (fun r13 =>
      lxb (f_X5_howMany 1 o_players r13) (fun r15 =>
       ((v23.1 + r15), y4, r13))))
     else if y5 ≤ 11 then (lxb (α := Int32) (if 6 ≤ y5 then 3
        else 2) (fun z6 =>
       lxb (f_X5_tryThing z6 0 (y5 - y5 / 6 * 6) o_players o_bars v23.2.2 o_noise_v o_kind_v o_looks_v o_repeat_v o_price_v o_breath_v) (fun r7 =>
        lxb (f_X5_howMany 1 o_players r7.2) (fun r9 =>
         ((v23.1 + r9), y4, r7.2)))))
      else lxb (f_X5_giveOn 1 (y5 - 11) v23.2.2) (fun r10 =>
       lxb (f_X5_howMany 1 o_players r10) (fun r12 =>
        ((v23.1 + r12), y4, r10))))
    else lxb (f_X5_passOn 1 o_players o_bars v23.2.2 o_noise_v o_kind_v o_looks_v o_repeat_v) (fun r16 =>
     lxb (f_X5_howMany 1 o_players r16.2) (fun r18 =>
      ((v23.1 + r18), y4, r16.2)))))
theorem lxb_y {α β : Type} (x : α) (f : α → β) : lxb x f = f x := rfl
theorem nC_eq (t_players : Int32) (t_bars : Int32) (t_noises_v : Nat → Int32) (t_kinds_v : Nat → Int32) (t_looks_v : Nat → Int32) (t_repeats_v : Nat → Int32) (t_winds_v : Nat → Int32) (t_prices_v : Nat → Int32) (k29 : Nat) (v29 : Int32 × Int64 × Int32 × Int32 × Int32 × Int32 × Int32 × Int32 × (Nat → Int32)) : b_X4_nights_29 t_players t_bars t_noises_v t_kinds_v t_looks_v t_repeats_v t_winds_v t_prices_v k29 v29 = nC t_players t_bars t_noises_v t_kinds_v t_looks_v t_repeats_v t_winds_v t_prices_v (v29.2.1 * 6364136223846793005 + 1442695040888963407) v29 := rfl
theorem nM_eq (o_players : Int32) (o_bars : Int32) (o_noise_v : Nat → Int32) (o_kind_v : Nat → Int32) (o_looks_v : Nat → Int32) (o_repeat_v : Nat → Int32) (o_price_v : Nat → Int32) (o_breath_v : Nat → Int32) (k23 : Nat) (v23 : Int32 × Int64 × (Nat → Int32)) : b_X5_nights_23 o_players o_bars o_noise_v o_kind_v o_looks_v o_repeat_v o_price_v o_breath_v k23 v23 = nM o_players o_bars o_noise_v o_kind_v o_looks_v o_repeat_v o_price_v o_breath_v (v23.2.1 * 6364136223846793005 + 1442695040888963407) v23 := rfl
theorem night_step {T : TDt} (hT : TW T) {pc bc pm bm : Int32} {prc wdc kdc lkc noc rpc prm wdm kdm lkm nom rpm : Nat → Int32} (hc : CT T pc bc prc wdc kdc lkc noc rpc) (hm : CT T pm bm prm wdm kdm lkm nom rpm) {b : AS} (b1 : AW T b) (b2 : AK T b) {p : Int32 × Int64 × Int32 × Int32 × Int32 × Int32 × Int32 × Int32 × (Nat → Int32)} {q : Int32 × Int64 × (Nat → Int32)} {v : Nat → Int32} (b3 : CM T b p.2.2.1 p.2.2.2.1 p.2.2.2.2.1 p.2.2.2.2.2.1 p.2.2.2.2.2.2.1 p.2.2.2.2.2.2.2.1 p.2.2.2.2.2.2.2.2) (b4 : MR T 16 b q.2.2) (b5 : p.1 = q.1) (b7 : MY 16 v q.2.2) (y : Int64) : ∃ b : AS, AW T b ∧ AK T b ∧
    CM T b (nC pc bc noc kdc lkc rpc wdc prc y p).2.2.1 (nC pc bc noc kdc lkc rpc wdc prc y p).2.2.2.1 (nC pc bc noc kdc lkc rpc wdc prc y p).2.2.2.2.1 (nC pc bc noc kdc lkc rpc wdc prc y p).2.2.2.2.2.1 (nC pc bc noc kdc lkc rpc wdc prc y p).2.2.2.2.2.2.1 (nC pc bc noc kdc lkc rpc wdc prc y p).2.2.2.2.2.2.2.1 (nC pc bc noc kdc lkc rpc wdc prc y p).2.2.2.2.2.2.2.2 ∧ MR T 16 b (nM pm bm nom kdm lkm rpm prm wdm y q).2.2 ∧ (nC pc bc noc kdc lkc rpc wdc prc y p).1 = (nM pm bm nom kdm lkm rpm prm wdm y q).1 ∧ (nC pc bc noc kdc lkc rpc wdc prc y p).2.1 = (nM pm bm nom kdm lkm rpm prm wdm y q).2.1 ∧ MY 16 v (nM pm bm nom kdm lkm rpm prm wdm y q).2.2 := by
  have h6 := hT.1
  obtain ⟨d, hd, ed⟩ := ch_at y
  obtain ⟨o1, o2⟩ := aChance_ok hT b1 b2 d
  refine ⟨aChance T b d, o1, o2, ?_⟩
  unfold nC nM
  rw [lxb_y y, ed, b5]
  dsimp only [lxb]
  have cc := c_chance hT b1 b2 hc b3 hd rfl
  have cn : f_X2_howManyPlay (f_X2_doByChance (nI d) p.2.2.1 p.2.2.2.1 p.2.2.2.2.1 p.2.2.2.2.2.1 p.2.2.2.2.2.2.1 p.2.2.2.2.2.2.2.1 pc bc noc kdc p.2.2.2.2.2.2.2.2 lkc rpc wdc prc).1 = nI (aMany (aChance T b d).1 (tnp T)) := by
    dsimp only [f_X2_howManyPlay, lxb]
    exact cc.1.1.many h6
  rw [cn]
  refine ⟨cc, ?_⟩
  have fin : ∀ r : Nat → Int32, MR T 16 (aChance T b d) r ∧ MY 16 q.2.2 r → MR T 16 (aChance T b d) r ∧ q.1 + nI (aMany (aChance T b d).1 (tnp T)) = q.1 + f_X5_howMany 1 pm r ∧ y = y ∧ MY 16 v r := fun r h => by
    refine ⟨h.1, ?_, rfl, b7.trans h.2⟩
    rw [hm.1, show f_X5_howMany 1 (nI (tnp T)) r = _ from m_many h6 (lv := 1) (by decide) h.1.1 (fun p hp => (o1.1 p hp).1)]
  have le : ∀ k : Nat, k < 30 → (nI d ≤ nI k ↔ d ≤ k) := fun k hk => nI_leI (by omega) (by omega)
  have l15 : nI d ≤ (15 : Int32) ↔ d ≤ 15 := le 15 (by decide)
  have l11 : nI d ≤ (11 : Int32) ↔ d ≤ 11 := le 11 (by decide)
  have l6 : (6 : Int32) ≤ nI d ↔ 6 ≤ d := nI_leI (a := 6) (b := d) (by decide) (by omega)
  have l15' : nI d = (15 : Int32) ↔ d = 15 := nI_eq (a := d) (b := 15) (by omega) (by decide)
  have e6 : nI d - nI d / 6 * 6 = nI (d % 6) := nx_rem rfl (show (6 : Int32) = nI 6 from rfl) (by omega) (by omega) (by omega)
  by_cases c1 : d ≤ 15
  · rw [if_pos (l15.mpr c1)]
    by_cases c2 : d = 15
    · rw [if_pos (l15'.mpr c2)]
      apply fin
      have ea : aChance T b d = aAgain b := by unfold aChance; rw [if_neg (by omega), if_neg (by omega), if_neg (by omega), if_pos c2]
      rw [ea]
      exact m_begin hT (lv := 1) (by decide) b4
    · rw [if_neg (fun q => c2 (l15'.mp q))]
      by_cases c3 : d ≤ 11
      · rw [if_pos (l11.mpr c3), e6]
        by_cases c4 : 6 ≤ d
        · rw [if_pos (l6.mpr c4)]
          apply fin
          have ea : aChance T b d = if aCanRest T b (d % 6) = true then aRest T b (d % 6) else b := by unfold aChance; rw [if_neg (by omega), if_pos (by omega), show d % 6 = d - 6 by omega]
          rw [ea]
          exact m_tryR hT b1 hm b4 (show d % 6 < 10 by omega)
        · rw [if_neg (fun q => c4 (l6.mp q))]
          apply fin
          have ea : aChance T b d = if aCanPay T b (d % 6) = true then aPay T b (d % 6) else b := by unfold aChance; rw [if_pos (by omega), show d % 6 = d by omega]
          rw [ea]
          exact m_tryP hT b1 hm b4 (show d % 6 < 10 by omega)
      · rw [if_neg (fun q => c3 (l11.mp q)), show nI d - 11 = nI (d - 11) from pk_sub (b := 11) (by omega)]
        apply fin
        have ea : aChance T b d = aGive b (d - 11) := by unfold aChance; rw [if_neg (by omega), if_neg (by omega), if_pos (by omega)]
        rw [ea]
        exact m_give (lv := 1) (by decide) b1 hT b4 (show d - 11 < 100 by omega)
  · rw [if_neg (fun q => c1 (l15.mp q))]
    apply fin
    have ea : aChance T b d = aPass T b := by unfold aChance; rw [if_neg (by omega), if_neg (by omega), if_neg (by omega), if_neg (by omega)]
    rw [ea]
    obtain ⟨_, g2, g3⟩ := m_pass hT (lv := 1) (by decide) b1 hm b4 rfl
    exact ⟨g2, g3⟩
theorem e_nightsL {T : TDt} (hT : TW T) {pc bc pm bm : Int32} {prc wdc kdc lkc noc rpc prm wdm kdm lkm nom rpm : Nat → Int32} (hc : CT T pc bc prc wdc kdc lkc noc rpc) (hm : CT T pm bm prm wdm kdm lkm nom rpm) {a : AS} (hA : AW T a) (hK : AK T a) {sd : Int64} {pl pd nx tk ht tm : Int32} {wi v : Nat → Int32} (hC : CM T a pl pd nx tk ht tm wi) (hM : MR T 16 a v) : ∀ k, ∃ b : AS, AW T b ∧ AK T b ∧
    CM T b (l_X4_nights_29 pc bc noc kdc lkc rpc wdc prc (0, sd, pl, pd, nx, tk, ht, tm, wi) k).2.2.1 (l_X4_nights_29 pc bc noc kdc lkc rpc wdc prc (0, sd, pl, pd, nx, tk, ht, tm, wi) k).2.2.2.1 (l_X4_nights_29 pc bc noc kdc lkc rpc wdc prc (0, sd, pl, pd, nx, tk, ht, tm, wi) k).2.2.2.2.1 (l_X4_nights_29 pc bc noc kdc lkc rpc wdc prc (0, sd, pl, pd, nx, tk, ht, tm, wi) k).2.2.2.2.2.1 (l_X4_nights_29 pc bc noc kdc lkc rpc wdc prc (0, sd, pl, pd, nx, tk, ht, tm, wi) k).2.2.2.2.2.2.1 (l_X4_nights_29 pc bc noc kdc lkc rpc wdc prc (0, sd, pl, pd, nx, tk, ht, tm, wi) k).2.2.2.2.2.2.2.1 (l_X4_nights_29 pc bc noc kdc lkc rpc wdc prc (0, sd, pl, pd, nx, tk, ht, tm, wi) k).2.2.2.2.2.2.2.2 ∧
    MR T 16 b (l_X5_nights_23 pm bm nom kdm lkm rpm prm wdm (0, sd, v) k).2.2 ∧ (l_X4_nights_29 pc bc noc kdc lkc rpc wdc prc (0, sd, pl, pd, nx, tk, ht, tm, wi) k).1 = (l_X5_nights_23 pm bm nom kdm lkm rpm prm wdm (0, sd, v) k).1 ∧ (l_X4_nights_29 pc bc noc kdc lkc rpc wdc prc (0, sd, pl, pd, nx, tk, ht, tm, wi) k).2.1 = (l_X5_nights_23 pm bm nom kdm lkm rpm prm wdm (0, sd, v) k).2.1 ∧ MY 16 v (l_X5_nights_23 pm bm nom kdm lkm rpm prm wdm (0, sd, v) k).2.2 := by
  intro k
  induction k with
  | zero => exact ⟨a, hA, hK, hC, hM, rfl, rfl, MY.refl⟩
  | succ k ih =>
    have h6 := hT.1
    obtain ⟨b, b1, b2, b3, b4, b5, b6, b7⟩ := ih
    rw [l_X4_nights_29, l_X5_nights_23]
    generalize l_X4_nights_29 pc bc noc kdc lkc rpc wdc prc (0, sd, pl, pd, nx, tk, ht, tm, wi) k = p at b3 b5 b6 ⊢
    generalize l_X5_nights_23 pm bm nom kdm lkm rpm prm wdm (0, sd, v) k = q at b4 b5 b6 b7 ⊢
    rw [nC_eq, nM_eq, b6]
    generalize q.2.1 * 6364136223846793005 + 1442695040888963407 = y
    exact night_step hT hc hm b1 b2 b3 b4 b5 b7 y
theorem e_nights {T : TDt} (hT : TW T) {pc bc pm bm : Int32} {prc wdc kdc lkc noc rpc prm wdm kdm lkm nom rpm : Nat → Int32} (hc : CT T pc bc prc wdc kdc lkc noc rpc) (hm : CT T pm bm prm wdm kdm lkm nom rpm) {a : AS} (hA : AW T a) {pl pd nx tk ht tm : Int32} {wi now : Nat → Int32} (hC : CM T a pl pd nx tk ht tm wi) (hM : MR T 0 a now) (h28 : 0 ≤ now 28) (hK : AK T a) (x0 : Int32) (sd : Int64) (w1 w2 w3 w4 w5 w6 : Int32) (ww : Nat → Int32) {rc : Int32 × Int64 × Int32 × Int32 × Int32 × Int32 × Int32 × Int32 × (Nat → Int32)} {rm : Int32 × Int64 × (Nat → Int32)}
    (ec : rc = f_X4_nights x0 sd w1 w2 w3 w4 w5 w6 pl pd nx tk ht tm wi ww pc bc noc kdc lkc rpc wdc prc) (em : rm = f_X5_nights x0 pm bm sd now nom kdm lkm rpm prm wdm) : rc.1 = rm.1 ∧ rc.2.1 = rm.2.1 ∧ MS now rm.2.2 := by
  subst ec em
  dsimp only [f_X4_nights, f_X5_nights, lxb]
  rcases rng x0 1 30 (by decide) (by decide) with ⟨n, n1, n4, rfl⟩ | q
  · rw [show f_X5_in (Int32.toInt64 (nI n)) 1 30 = 1 from in_y n1 n4 (by decide), if_neg (show ¬ nI n < (1 : Int32) from nI_nlt (b := 1) n1 (by omega)), if_pos (show nI n ≤ (30 : Int32) from nI_le (b := 30) n4 (by decide)), if_neg (show ¬ (1 : Int32) = 0 by decide), itn0 (by omega)]
    obtain ⟨l1, l2⟩ := m_lay hT hM
    obtain ⟨b, b1, b2, b3, b4, b5, b6, b7⟩ := e_nightsL hT hc hm hA hK (sd := sd) (c_become hT hC (w := ww) rfl) l1 n
    exact ⟨b5, b6, MS.of (l2.trans b7) (b4.b28 hT b1)⟩
  · rw [show f_X5_in (Int32.toInt64 x0) 1 30 = 0 from in_n q (by decide) (by decide), if_pos (show (0 : Int32) = 0 from rfl)]
    by_cases c : x0 < 1
    · rw [if_pos c]
      exact ⟨rfl, rfl, MS.refl h28⟩
    · have : ¬ x0 ≤ 30 := by
        rcases q with q | q
        · exact absurd q c
        · exact Int32.not_le.mpr q
      rw [if_neg c, if_neg this]
      exact ⟨rfl, rfl, MS.refl h28⟩
