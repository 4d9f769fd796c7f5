/-! a face's answers are equal: ranges, judging -/
theorem rng (x : Int32) (lo hi : Nat) (h1 : hi + 1 < 2 ^ 31) (h2 : lo < 2 ^ 31) : (∃ j, lo ≤ j ∧ j ≤ hi ∧ x = nI j) ∨ x < nI lo ∨ nI hi < x := by
  have h : hi < 2 ^ 31 := by omega
  by_cases c1 : x < nI lo
  · exact Or.inr (Or.inl c1)
  · by_cases c2 : nI hi < x
    · exact Or.inr (Or.inr c2)
    · rw [Int32.lt_iff_toInt_lt, nI_toInt h2] at c1
      rw [Int32.lt_iff_toInt_lt, nI_toInt h] at c2
      obtain ⟨j, hj, e⟩ := mNat (x := x) (N := hi + 1) (by omega) (by omega) (by omega)
      rw [e, nI_toInt (by omega)] at c1
      exact Or.inl ⟨j, by omega, by omega, e⟩
theorem in_y {j lo hi : Nat} (h1 : lo ≤ j) (h2 : j ≤ hi) (h : hi < 2 ^ 31) : f_X5_in (Int32.toInt64 (nI j)) (lN lo) (lN hi) = 1 := by
  unfold f_X5_in
  rw [nI_l (show j < 2 ^ 31 by omega), if_neg (fun q => by have := (pk_lLT (show j < 2 ^ 63 by omega) (show lo < 2 ^ 63 by omega)).mp q; omega), if_neg (fun q => by have := (pk_lLT (show hi < 2 ^ 63 by omega) (show j < 2 ^ 63 by omega)).mp q; omega)]
theorem in_n {x : Int32} {lo hi : Nat} (h : x < nI lo ∨ nI hi < x) (hl : lo < 2 ^ 31) (hh : hi < 2 ^ 31) : f_X5_in (Int32.toInt64 x) (lN lo) (lN hi) = 0 := by
  unfold f_X5_in
  rw [Int32.lt_iff_toInt_lt, Int32.lt_iff_toInt_lt, nI_toInt hl, nI_toInt hh] at h
  have e1 : x.toInt64 < lN lo ↔ x.toInt < (lo : Int) := by rw [Int64.lt_iff_toInt_lt, Int32.toInt_toInt64, pk_lT (show lo < 2 ^ 63 by omega)]
  have e2 : lN hi < x.toInt64 ↔ (hi : Int) < x.toInt := by rw [Int64.lt_iff_toInt_lt, Int32.toInt_toInt64, pk_lT (show hi < 2 ^ 63 by omega)]
  by_cases c : x.toInt < (lo : Int)
  · rw [if_pos (e1.mpr c)]
  · rw [if_neg (fun q => c (e1.mp q)), if_pos (e2.mpr (by omega))]
/-- the model's row now, but for the trial -/
def MS (v v' : Nat → Int32) : Prop := (∀ q, q < 16 → v' q = v q) ∧ 0 ≤ v' 28
theorem MS.refl {v : Nat → Int32} (h : 0 ≤ v 28) : MS v v := ⟨fun _ _ => rfl, h⟩
theorem MS.of {v v' : Nat → Int32} (h : MY 16 v v') (h2 : 0 ≤ v' 28) : MS v v' := ⟨fun q hq => h q (Or.inl hq), h2⟩
theorem MS.y {u v w : Nat → Int32} (h : MS u v) (h1 : MY 16 v w) (h2 : 0 ≤ w 28) : MS u w := ⟨fun q hq => (h1 q (Or.inl hq)).trans (h.1 q hq), h2⟩
theorem MS.trans {u v w : Nat → Int32} (h : MS u v) (h1 : MS v w) : MS u w := ⟨fun q hq => (h1.1 q hq).trans (h.1 q hq), h1.2⟩
theorem MR.low {T : TDt} (hT : TW T) {a : AS} {v v' : Nat → Int32} (h : MR T 0 a v) (hs : ∀ q, q < 16 → v' q = v q) : MR T 0 a v' := by
  have h6 := hT.1
  obtain ⟨h1, h2, h3, h4, h5⟩ := h
  exact ⟨fun p hp => ⟨(hs _ (by omega)).trans (h1 p hp).1, (hs _ (by omega)).trans (h1 p hp).2⟩, (hs _ (by omega)).trans h2, (hs _ (by omega)).trans h3, (hs _ (by omega)).trans h4, (hs _ (by omega)).trans h5⟩
theorem tb_th : ∀ n, n < 5 → f_X5_thousandTo (nI n) = lN (1000 ^ n) := by decide +kernel
theorem tb_thc : ∀ n, n < 5 → l_X4_judge_19 1 n = lN (1000 ^ n) := by decide +kernel
theorem lN_32 : ∀ m, m < 1000 → Int64.toInt32 (lN m) = nI m := by decide +kernel
theorem fig_at {j n : Nat} (hj : j < 2 ^ 63) (hn : n < 5) : Int64.toInt32 ((lN j / lN (1000 ^ n)) - (lN j / lN (1000 ^ n)) / 1000 * 1000) = nI (j / 1000 ^ n % 1000) := by
  have h0 : 0 < 1000 ^ n := Nat.pow_pos (by decide)
  have h1 : 1000 ^ n < 2 ^ 63 := by
    have : 1000 ^ n ≤ 1000 ^ 4 := Nat.pow_le_pow_right (by decide) (by omega)
    omega
  rw [pk_lDiv hj h0 h1, show (1000 : Int64) = lN 1000 from rfl, pk_lRem (Nat.lt_of_le_of_lt (Nat.div_le_self _ _) hj) (by decide) (by decide), lN_32 _ (Nat.mod_lt _ (by decide))]
theorem e_judgeL {T : TDt} (hT : TW T) {pc bc pm bm : Int32} {prc wdc kdc lkc noc rpc prm wdm kdm lkm nom rpm : Nat → Int32} (hc : CT T pc bc prc wdc kdc lkc noc rpc) (hm : CT T pm bm prm wdm kdm lkm nom rpm) {j N : Nat} (hj : j < 2 ^ 63) (hN : N ≤ 4) : ∀ (n k : Nat) (a : AS) (pl pd nx tk ht tm : Int32) (wi v : Nat → Int32), n + k = N → AW T a → CM T a pl pd nx tk ht tm wi → MR T 16 a v →
    (l_X4_judge_69 (lN j) pc bc noc kdc lkc rpc prc wdc n k (lN (1000 ^ n), pl, pd, nx, tk, ht, tm, wi)).1 = (l_X5_judge_36 (nI N) (lN j) pm bm nom kdm lkm rpm prm wdm n k v).1 ∧ MY 16 v (l_X5_judge_36 (nI N) (lN j) pm bm nom kdm lkm rpm prm wdm n k v).2 ∧ 0 ≤ (l_X5_judge_36 (nI N) (lN j) pm bm nom kdm lkm rpm prm wdm n k v).2 28
  | 0, k, a, pl, pd, nx, tk, ht, tm, wi, v, hk, hA, hC, hM => ⟨rfl, MY.refl, hM.b28 hT hA⟩
  | n + 1, k, a, pl, pd, nx, tk, ht, tm, wi, v, hk, hA, hC, hM => by
    have tbd : ∀ n, n < 4 → lN (1000 ^ (n + 1)) / 1000 = lN (1000 ^ n) ∧ ¬ lN (1000 ^ n) < 1 := by decide +kernel
    obtain ⟨u1, u2⟩ := tbd n (by omega)
    have u3 : f_X5_thousandTo ((nI N - 1) - nI k) = lN (1000 ^ n) := by
      rw [show (1 : Int32) = nI 1 from rfl, pk_sub (by omega), pk_sub (by omega), show N - 1 - k = n by omega, tb_th n (by omega)]
    have f3 := fig_at hj (show n < 5 by omega)
    have hf : j / 1000 ^ n % 1000 < 1000 := Nat.mod_lt _ (by decide)
    dsimp only [l_X4_judge_69, l_X5_judge_36, lxb]
    rw [u1, u3, if_neg u2, f3]
    generalize j / 1000 ^ n % 1000 = f at hf ⊢
    have e1 : nI f / 100 = nI (f / 100) := nx_div rfl (show (100 : Int32) = nI 100 from rfl) (by omega) (by omega) (by omega)
    have e2 : nI f / 10 = nI (f / 10) := nx_div rfl (show (10 : Int32) = nI 10 from rfl) (by omega) (by omega) (by omega)
    have e3 : nI (f / 10) - nI (f / 10) / 10 * 10 = nI (f / 10 % 10) := nx_rem rfl (show (10 : Int32) = nI 10 from rfl) (by omega) (by omega) (by omega)
    have e4 : nI f - nI f / 10 * 10 = nI (f % 10) := nx_rem rfl (show (10 : Int32) = nI 10 from rfl) (by omega) (by omega) (by omega)
    rw [e4, e2, e3, e1]
    obtain ⟨d1, d2⟩ := c_do hT hA hc hC hf rfl
    obtain ⟨t1, t2, t3, t4⟩ := m_try hT hA hm hM (h := f / 100) (x := f / 10 % 10) (y := f % 10) (by omega) (by omega) (by omega) rfl
    generalize f_X2_doIfItCanBe (nI f) pl pd nx tk ht tm pc bc noc kdc wi lkc rpc prc wdc = rc at d1 d2 ⊢
    generalize f_X5_tryThing (nI (f / 100)) (nI (f / 10 % 10)) (nI (f % 10)) pm bm v nom kdm lkm rpm prm wdm = rm at t1 t2 t3 t4 ⊢
    by_cases ok : aOk T a (f / 100) (f / 10 % 10) (f % 10) = true
    · obtain ⟨d3, d4⟩ := d1 ok
      have t5 := t2 ok
      rw [if_pos ok] at t1
      rw [d3, t1, if_neg (show ¬ (1 : Int32) = 0 by decide), if_neg (show ¬ (1 : Int32) = 0 by decide)]
      obtain ⟨i1, i2, i3⟩ := e_judgeL hT hc hm hj hN n (k + 1) _ _ _ _ _ _ _ _ _ (by omega) (aDo_ok hT hA ok) d4 t5
      exact ⟨i1, t3.trans i2, i3⟩
    · rw [if_neg ok] at t1
      rw [d2 ok, t1, if_pos rfl, if_pos rfl]
      exact ⟨rfl, t3, t4⟩
theorem e_judge {T : TDt} (hT : TW T) {pc bc pm bm : Int32} {prc wdc kdc lkc noc rpc prm wdm kdm lkm nom rpm : Nat → Int32} (hc : CT T pc bc prc wdc kdc lkc noc rpc) (hm : CT T pm bm prm wdm kdm lkm nom rpm) {a : AS} (hA : AW T a) {pl pd nx tk ht tm : Int32} {wi now : Nat → Int32} (hC : CM T a pl pd nx tk ht tm wi) (hM : MR T 0 a now) (h28 : 0 ≤ now 28) (x0 : Int32) (x1 : Int64) (w1 w2 w3 w4 w5 w6 : Int32) (ww : Nat → Int32) {rc : Int32 × Int32 × Int32 × Int32 × Int32 × Int32 × Int32 × (Nat → Int32)} {rm : Int32 × (Nat → Int32)}
    (ec : rc = f_X4_judge x0 x1 w1 w2 w3 w4 w5 w6 pl pd nx tk ht tm wi ww pc bc noc kdc lkc rpc prc wdc) (em : rm = f_X5_judge x0 x1 pm bm now nom kdm lkm rpm prm wdm) : rc.1 = rm.1 ∧ MS now rm.2 := by
  subst ec em
  dsimp only [f_X4_judge, f_X5_judge, lxb]
  rcases rng x0 1 4 (by decide) (by decide) with ⟨n, n1, n4, rfl⟩ | q
  · rw [show f_X5_in (Int32.toInt64 (nI n)) 1 4 = 1 from in_y n1 n4 (by decide), if_neg (show ¬ nI n < (1 : Int32) from nI_nlt (b := 1) n1 (by omega)), if_pos (show nI n ≤ (4 : Int32) from nI_le (b := 4) n4 (by decide)), if_neg (show ¬ (1 : Int32) = 0 by decide), itn0 (by omega), tb_thc n (by omega), tb_th n (by omega)]
    have h0 : 0 < 1000 ^ n := Nat.pow_pos (by decide)
    have h1 : 1000 ^ n < 2 ^ 63 := by
      have : 1000 ^ n ≤ 1000 ^ 4 := Nat.pow_le_pow_right (by decide) (by omega)
      omega
    have e1 : lN (1000 ^ n) - 1 = lN (1000 ^ n - 1) := by rw [show (1 : Int64) = lN 1 from rfl, lN_sub (by omega)]
    by_cases c : x1 < 0
    · rw [if_pos c, show f_X5_in x1 0 (lN (1000 ^ n) - 1) = 0 by unfold f_X5_in; rw [if_pos c], if_pos rfl]
      exact ⟨rfl, MS.refl h28⟩
    · obtain ⟨j, hj, rfl⟩ := pk_lOf c
      rw [if_neg c]
      by_cases d : j < 1000 ^ n
      · rw [if_pos ((pk_lLT hj h1).mpr d), show f_X5_in (lN j) 0 (lN (1000 ^ n) - 1) = 1 by
          unfold f_X5_in
          rw [if_neg c, e1, if_neg (fun q => by have := (pk_lLT (show 1000 ^ n - 1 < 2 ^ 63 by omega) hj).mp q; omega)], if_neg (show ¬ (1 : Int32) = 0 by decide)]
        obtain ⟨l1, l2⟩ := m_lay hT hM
        obtain ⟨g1, g2, g3⟩ := e_judgeL hT hc hm hj n4 n 0 a _ _ _ _ _ _ _ _ rfl hA (c_become hT hC (w := ww) rfl) l1
        exact ⟨g1, MS.of (l2.trans g2) g3⟩
      · rw [if_neg (fun q => d ((pk_lLT hj h1).mp q)), show f_X5_in (lN j) 0 (lN (1000 ^ n) - 1) = 0 by
          unfold f_X5_in
          rw [if_neg c, e1, if_pos ((pk_lLT (show 1000 ^ n - 1 < 2 ^ 63 by omega) hj).mpr (by omega))], if_pos rfl]
        exact ⟨rfl, MS.refl h28⟩
  · rw [show f_X5_in (Int32.toInt64 x0) 1 4 = 0 from in_n q (by decide) (by decide), if_pos (show (0 : Int32) = 0 from rfl)]
    refine ⟨?_, MS.refl h28⟩
    by_cases c : x0 < 1
    · rw [if_pos c]
    · have : ¬ x0 ≤ 4 := by
        rcases q with q | q
        · exact absurd q c
        · exact Int32.not_le.mpr q
      rw [if_neg c, if_neg this]
