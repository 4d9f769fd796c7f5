/-! the loudest rest, nights: equal -/
/-- no bars: none taken -/
def AK (T : TDt) (a : AS) : Prop := tnb T = 0 → a.2.2.2.1 = 0
theorem AK.pass {T : TDt} {a : AS} (h : AK T a) : AK T (aPass T a) := fun q => by
  have : aSilent T a = true := by unfold aSilent; simp [q]
  rw [aPass_sil this]; exact h q
theorem AK.go {T : TDt} {a : AS} (h : AK T a) : ∀ n, AK T (aGo T a n)
  | 0 => h
  | n + 1 => (AK.go h n).pass
def aChance (T : TDt) (a : AS) (d : Nat) : AS := if d < 6 then (if aCanPay T a d = true then aPay T a d else a) else if d < 12 then (if aCanRest T a (d - 6) = true then aRest T a (d - 6) else a) else if d < 15 then aGive a (d - 11) else if d = 15 then aAgain a else aPass T a
theorem aChance_ok {T : TDt} (hT : TW T) {a : AS} (hA : AW T a) (hK : AK T a) (d : Nat) : AW T (aChance T a d) ∧ AK T (aChance T a d) := by
  unfold aChance
  by_cases c1 : d < 6
  · rw [if_pos c1]
    split
    · exact ⟨aPay_ok hA d, hK⟩
    · exact ⟨hA, hK⟩
  · rw [if_neg c1]
    by_cases c2 : d < 12
    · rw [if_pos c2]
      by_cases c : aCanRest T a (d - 6) = true
      · rw [if_pos c]
        have hp : d - 6 < tnp T := by unfold aCanRest at c; simp at c; exact c.1.1
        exact ⟨aRest_ok hT hA hp, hK⟩
      · rw [if_neg c]; exact ⟨hA, hK⟩
    · rw [if_neg c2]
      by_cases c3 : d < 15
      · rw [if_pos c3]; exact ⟨aGive_ok hA _, hK⟩
      · rw [if_neg c3]
        by_cases c4 : d = 15
        · rw [if_pos c4]; exact ⟨aAgain_ok hA, fun _ => rfl⟩
        · rw [if_neg c4]; exact ⟨aPass_ok hA, hK.pass⟩
theorem c_chance {T : TDt} (hT : TW T) {a : AS} (hA : AW T a) (hK : AK T a) {players bars pl pd nx tk ht tm : Int32} {pr wd kd lk no rp wi : Nat → Int32} (hc : CT T players bars pr wd kd lk no rp) (hC : CM T a pl pd nx tk ht tm wi) {d : Nat} (hd : d < 26) {r : Int32 × Int32 × Int32 × Int32 × Int32 × Int32 × (Nat → Int32)} (er : r = f_X2_doByChance (nI d) pl pd nx tk ht tm players bars no kd wi lk rp wd pr) :
    CM T (aChance T a d) r.1 r.2.1 r.2.2.1 r.2.2.2.1 r.2.2.2.2.1 r.2.2.2.2.2.1 r.2.2.2.2.2.2 := by
  subst er
  have le : ∀ k : Nat, k < 30 → (nI k ≤ nI d ↔ k ≤ d) := fun k hk => nI_leI (by omega) (by omega)
  have l6 : (6 : Int32) ≤ nI d ↔ 6 ≤ d := le 6 (by decide)
  have l12 : (12 : Int32) ≤ nI d ↔ 12 ≤ d := le 12 (by decide)
  have l15 : (15 : Int32) ≤ nI d ↔ 15 ≤ d := le 15 (by decide)
  have l15' : nI d = (15 : Int32) ↔ d = 15 := nI_eq (a := d) (b := 15) (by omega) (by decide)
  dsimp only [f_X2_doByChance, lxb]
  unfold aChance
  by_cases c1 : 6 ≤ d
  · rw [if_pos (l6.mpr c1), if_neg (show ¬ d < 6 by omega)]
    by_cases c2 : 12 ≤ d
    · rw [if_pos (l12.mpr c2), if_neg (show ¬ d < 12 by omega)]
      by_cases c3 : 15 ≤ d
      · rw [if_pos (l15.mpr c3), if_neg (show ¬ d < 15 by omega)]
        by_cases c4 : d = 15
        · rw [if_pos (l15'.mpr c4), if_pos c4]
          obtain ⟨a1, a2⟩ := c_again hT hc hC rfl
          by_cases c5 : tnb T = 0
          · rw [a2 c5]
            have h0 : a.2.2.1 = 0 := by have := hA.2.1; omega
            have h1 : aAgain a = a := by
              show (a.1, a.2.1, 0, 0, a.2.2.2.2) = a
              rw [← h0, ← hK c5]
            rw [h1]; exact hC
          · exact (a1 c5).2
        · rw [if_neg (fun q => c4 (l15'.mp q)), if_neg c4]
          exact (c_bar hT hA hc hC rfl).2
      · rw [if_neg (fun q => c3 (l15.mp q)), if_pos (show d < 15 by omega), show nI d - 11 = nI (d - 11) from pk_sub (b := 11) (by omega)]
        exact ((c_give hA hC (n := d - 11) (by omega) rfl).1 (by omega)).2
    · rw [if_neg (fun q => c2 (l12.mp q)), if_pos (show d < 12 by omega), show nI d - 6 = nI (d - 6) from pk_sub (b := 6) (by omega)]
      obtain ⟨g1, g2⟩ := c_rest hT hA hc hC (p := d - 6) (by omega) rfl
      by_cases c : aCanRest T a (d - 6) = true
      · rw [if_pos c]; exact (g1 c).2
      · rw [if_neg c, g2 c]; exact hC
  · rw [if_neg (fun q => c1 (l6.mp q)), if_pos (show d < 6 by omega)]
    obtain ⟨g1, g2⟩ := c_pay hT hA hc hC (p := d) (by omega) rfl
    by_cases c : aCanPay T a d = true
    · rw [if_pos c]; exact (g1 c).2
    · rw [if_neg c, g2 c]; exact hC
theorem m_tryP {T : TDt} (hT : TW T) {a : AS} (hA : AW T a) {players bars : Int32} {pr wd kd lk no rp v : Nat → Int32} (hc : CT T players bars pr wd kd lk no rp) (hM : MR T 16 a v) {y : Nat} (hy : y < 10) : MR T 16 (if aCanPay T a y = true then aPay T a y else a) (f_X5_tryThing 2 0 (nI y) players bars v no kd lk rp pr wd).2 ∧ MY 16 v (f_X5_tryThing 2 0 (nI y) players bars v no kd lk rp pr wd).2 := by
  dsimp only [f_X5_tryThing, lxb]
  rw [if_neg (show ¬ (2 : Int32) = 0 by decide), if_neg (show ¬ (2 : Int32) = 1 by decide), if_pos (show (2 : Int32) = 2 from rfl), if_pos (show (0 : Int32) = 0 from rfl), show f_X5_canPay 1 (nI y) players v pr = _ from m_canPay hT (lv := 1) (by decide) hA hc hM hy]
  by_cases d : aCanPay T a y = true
  · rw [if_pos d, if_pos d, if_neg (show ¬ (1 : Int32) = 0 by decide)]
    exact m_pay hT (lv := 1) (by decide) hc hM d
  · rw [if_neg d, if_neg d, if_pos (show (0 : Int32) = 0 from rfl)]
    exact ⟨hM, MY.refl⟩
theorem m_tryR {T : TDt} (hT : TW T) {a : AS} (hA : AW T a) {players bars : Int32} {pr wd kd lk no rp v : Nat → Int32} (hc : CT T players bars pr wd kd lk no rp) (hM : MR T 16 a v) {y : Nat} (hy : y < 10) : MR T 16 (if aCanRest T a y = true then aRest T a y else a) (f_X5_tryThing 3 0 (nI y) players bars v no kd lk rp pr wd).2 ∧ MY 16 v (f_X5_tryThing 3 0 (nI y) players bars v no kd lk rp pr wd).2 := by
  dsimp only [f_X5_tryThing, lxb]
  rw [if_neg (show ¬ (3 : Int32) = 0 by decide), if_neg (show ¬ (3 : Int32) = 1 by decide), if_neg (show ¬ (3 : Int32) = 2 by decide), if_pos (show (3 : Int32) = 3 from rfl), if_pos (show (0 : Int32) = 0 from rfl), show f_X5_canRest 1 (nI y) players v wd = _ from m_canRest hT (lv := 1) (by decide) hA hc hM hy]
  by_cases d : aCanRest T a y = true
  · have hp : y < tnp T := by unfold aCanRest at d; simp at d; exact d.1.1
    rw [if_pos d, if_pos d, if_neg (show ¬ (1 : Int32) = 0 by decide)]
    exact m_rest hT (lv := 1) (by decide) hc hM hp
  · rw [if_neg d, if_neg d, if_pos (show (0 : Int32) = 0 from rfl)]
    exact ⟨hM, MY.refl⟩
theorem u64_l {u : UInt64} : u.toInt64 = lN u.toNat := by
  apply Int64.toBitVec_inj.mp
  apply BitVec.eq_of_toNat_eq
  show u.toNat = u.toNat % 2 ^ 64
  exact (Nat.mod_eq_of_lt u.toNat_lt).symm
theorem ch_at (y : Int64) : ∃ d, d < 26 ∧ Int64.toInt32 (((Int64.toUInt64 y >>> ((Int32.toInt64 33).toUInt64 &&& Int64.toUInt64 63)).toInt64) - ((Int64.toUInt64 y >>> ((Int32.toInt64 33).toUInt64 &&& Int64.toUInt64 63)).toInt64) / 26 * 26) = nI d := by
  have hu := (Int64.toUInt64 y >>> ((Int32.toInt64 33).toUInt64 &&& Int64.toUInt64 63)).toNat_lt
  have hv : (Int64.toUInt64 y >>> ((Int32.toInt64 33).toUInt64 &&& Int64.toUInt64 63)).toNat < 2 ^ 63 := by
    rw [UInt64.toNat_shiftRight, show ((Int32.toInt64 33).toUInt64 &&& Int64.toUInt64 63).toNat % 64 = 33 by decide +kernel, Nat.shiftRight_eq_div_pow]
    have := (Int64.toUInt64 y).toNat_lt
    omega
  rw [u64_l, show (26 : Int64) = lN 26 from rfl, pk_lRem hv (by decide) (by decide), lN_32 _ (by have := Nat.mod_lt ((Int64.toUInt64 y >>> ((Int32.toInt64 33).toUInt64 &&& Int64.toUInt64 63)).toNat) (show 0 < 26 by decide); omega)]
  exact ⟨_, Nat.mod_lt _ (by decide), rfl⟩
