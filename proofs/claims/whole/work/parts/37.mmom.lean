/-! the model's whole bar, bars in a row, trials -/
theorem bit_inj6 : ∀ m, m < 64 → ∀ k, k < 64 → (∀ p, p < 6 → m.testBit p = k.testBit p) → m = k := by decide +kernel
theorem aWho64 (st : Nat → Nat) (s : Nat) {n : Nat} (hn : n ≤ 6) : aWho st s n < 64 := Nat.lt_of_lt_of_le (aWho_lt st s n) (show 2 ^ n ≤ 2 ^ 6 from Nat.pow_le_pow_right (by decide) hn)
theorem BP.who {n s : Nat} {st : Nat → Nat} {x : Int32} (h : BP n st s x) (hn : n ≤ 6) : x = nI (aWho st s n) := by
  obtain ⟨m, h1, h2, h3⟩ := h
  rw [h2, bit_inj6 m h1 _ (aWho64 st s hn) fun p hp => by rw [h3 p hp, aWho_bit]]
theorem bcnt_who {st : Nat → Nat} {s n : Nat} (hn : n ≤ 6) : bcnt (aWho st s n) = aMany (fun p => if st p = s then 0 else 1) n := by
  have e : ∀ p, bit1 (aWho st s n) p = if p < n ∧ st p = s then 1 else 0 := fun p => by
    unfold bit1
    rw [aWho_bit]
    by_cases c : p < n ∧ st p = s <;> simp [c]
  unfold bcnt
  rw [e 0, e 1, e 2, e 3, e 4, e 5]
  rcases (show n = 0 ∨ n = 1 ∨ n = 2 ∨ n = 3 ∨ n = 4 ∨ n = 5 ∨ n = 6 by omega) with rfl | rfl | rfl | rfl | rfl | rfl | rfl <;> simp [aMany]
theorem many_ite (st : Nat → Nat) : ∀ n, aMany (fun p => if st p = 0 then 0 else 1) n = aMany st n
  | 0 => rfl
  | n + 1 => by
    rw [aMany, aMany, many_ite st n]
    by_cases c : st n = 0 <;> simp [c]
set_option maxRecDepth 100000 in
theorem tb_ones : ∀ m, m < 64 → f_X5_ones (nI m) = nI (bcnt m) := by decide +kernel
theorem tb_or : ∀ k, k < 6 → ∀ w, w < 2 ^ k → nI w ||| ((1 : Int32) <<< (nI k &&& 31)) = nI (w + 2 ^ k) := by decide +kernel
theorem m_whoL {n : Nat} (hn : n ≤ 6) {lv : Nat} (hlv : lv < 2) {a : AT} {v : Nat → Int32} (hM : MP n (16 * lv) a v) (hs : ∀ p, p < n → a.1 p ≤ 2) {s : Nat} (h2 : s < 2 ^ 31) : ∀ k, k ≤ n → l_X5_whoIs_5 (nI lv) (nI s) v 0 k = nI (aWho a.1 s k)
  | 0, _ => rfl
  | k + 1, hk => by
    have h3 := hs k (by omega)
    rw [l_X5_whoIs_5, m_whoL hn hlv hM hs h2 k (by omega)]
    dsimp only [b_X5_whoIs_5, lxb]
    rw [mA0 hlv (show k < 16 by omega), (hM k (by omega)).1, aWho]
    by_cases c : a.1 k = s
    · rw [if_pos (by rw [c]), if_pos c, tb_or k (by omega) _ (aWho_lt _ _ _)]
    · rw [if_neg (fun q => c ((nI_eq (show a.1 k < 2 ^ 31 by omega) h2).mp q)), if_neg c, Int32.or_zero, Nat.add_zero]
theorem m_who {n : Nat} (hn : n ≤ 6) {lv : Nat} (hlv : lv < 2) {a : AT} {v : Nat → Int32} (hM : MP n (16 * lv) a v) (hs : ∀ p, p < n → a.1 p ≤ 2) {s : Nat} (h2 : s < 2 ^ 31) : f_X5_whoIs (nI lv) (nI s) (nI n) v = nI (aWho a.1 s n) := by
  dsimp only [f_X5_whoIs, lxb]
  rw [itn0 (by omega), m_whoL hn hlv hM hs h2 n (Nat.le_refl _)]
theorem m_many {n : Nat} (hn : n ≤ 6) {lv : Nat} (hlv : lv < 2) {a : AT} {v : Nat → Int32} (hM : MP n (16 * lv) a v) (hs : ∀ p, p < n → a.1 p ≤ 2) : f_X5_howMany (nI lv) (nI n) v = nI (aMany a.1 n) := by
  dsimp only [f_X5_howMany, lxb]
  rw [show (0 : Int32) = nI 0 from rfl, m_who hn hlv hM hs (by decide), tb_ones _ (aWho64 _ _ hn), bcnt_who hn, many_ite]
theorem m_silent {T : TDt} (hT : TW T) {lv : Nat} (hlv : lv < 2) {a : AS} (hA : AW T a) {v : Nat → Int32} (hM : MR T (16 * lv) a v) : f_X5_isSilent (nI lv) (nI (tnp T)) (nI (tnb T)) v = if aSilent T a = true then 1 else 0 := by
  have h6 := hT.1
  have h8 := hT.2.1
  have hn := hA.2.1
  have hm := many_le a.1 (tnp T)
  dsimp only [f_X5_isSilent, lxb]
  rw [m_many h6 hlv hM.1 (fun p hp => (hA.1 p hp).1), mA12 hlv, hM.2.1]
  unfold aSilent
  show (if nI (aMany a.1 (tnp T)) = 0 then (1 : Int32) else _) = _
  by_cases c : aMany a.1 (tnp T) = 0
  · rw [if_pos ((nI_z (by omega)).mpr c)]; simp [c]
  · rw [if_neg (fun q => c ((nI_z (by omega)).mp q))]
    by_cases d : a.2.2.1 < tnb T
    · rw [if_pos (nI_lt d (by omega))]; simp [c, d]
    · rw [if_neg (nI_nlt (by omega) (by omega))]; simp [c, Nat.le_of_not_lt d]
theorem tb_in1 : ∀ r, r < 8 → ∀ n, n < 9 → f_X5_in (Int32.toInt64 (nI r)) 1 (Int32.toInt64 (nI n)) = if 1 ≤ r ∧ r ≤ n then 1 else 0 := by decide +kernel
theorem m_has (tk : Int32) (n : Nat) : f_X5_has tk (nI n) = if aTaken tk n = true then 1 else 0 := by
  unfold f_X5_has aTaken
  by_cases c : (tk >>> (nI n &&& 31)) &&& 1 = 1 <;> simp [c]
theorem aTurn_y {T : TDt} {nx : Nat} {tk : Int32} (c : (1 ≤ trp T nx ∧ trp T nx ≤ tnb T) ∧ aTaken tk nx = false) : aTurn T nx tk = (trp T nx - 1, tk ||| (1 <<< (nI nx &&& 31))) := if_pos c
theorem aTurn_n {T : TDt} {nx : Nat} {tk : Int32} (c : ¬ ((1 ≤ trp T nx ∧ trp T nx ≤ tnb T) ∧ aTaken tk nx = false)) : aTurn T nx tk = (nx + 1, tk) := if_neg c
theorem MR.fin {T : TDt} {b ht : Nat} {a : AT} {w : Nat → Int32} (h6 : tnp T ≤ 6) (l1 : MP (tnp T) b a w) (w14 : w (b + 14) = nI ht) (nx : Nat) (tk tm : Int32) : MR T b (a.1, a.2, nx, tk, ht, tm) (upd (upd (upd w (b + 12) (nI nx)) (b + 13) tk) (b + 15) tm) := by
  refine ⟨fun p hp => ?_, ?_, ?_, ?_, ?_⟩
  · rw [upd_n (show b + p ≠ b + 15 by omega), upd_n (show b + p ≠ b + 13 by omega), upd_n (show b + p ≠ b + 12 by omega), upd_n (show b + 6 + p ≠ b + 15 by omega), upd_n (show b + 6 + p ≠ b + 13 by omega), upd_n (show b + 6 + p ≠ b + 12 by omega)]
    exact l1 p hp
  · rw [upd_n (by omega), upd_n (by omega), upd_s]
  · rw [upd_n (by omega), upd_s]
  · rw [upd_n (by omega), upd_n (by omega), upd_n (by omega), w14]
  · rw [upd_s]
theorem m_pass {T : TDt} (hT : TW T) {lv : Nat} (hlv : lv < 2) {a : AS} (hA : AW T a) {players bars : Int32} {pr wd kd lk no rp v : Nat → Int32} (hc : CT T players bars pr wd kd lk no rp) (hM : MR T (16 * lv) a v) {r : Int32 × (Nat → Int32)} (er : r = f_X5_passOn (nI lv) players bars v no kd lk rp) :
    r.1 = nI (aNoise T a) ∧ MR T (16 * lv) (aPass T a) r.2 ∧ MY (16 * lv) v r.2 := by
  subst er
  obtain ⟨e1, e2, e3, e4⟩ := hc
  have h6 := hT.1
  have h8 := hT.2.1
  rw [e1, e2]
  dsimp only [f_X5_passOn, lxb]
  rw [m_silent hT hlv hA hM]
  by_cases c : aSilent T a = true
  · rw [if_pos c, if_neg (show ¬ (1 : Int32) = 0 by decide), aPass_sil c]
    refine ⟨?_, hM, MY.refl⟩
    unfold aNoise; rw [if_pos c]; rfl
  · have hb := not_silent c
    obtain ⟨n9, r7⟩ := hT.2.2.2 _ hb
    obtain ⟨m1, m2, m3, m4, m5⟩ := hM
    rw [if_neg c, if_pos rfl, mA12 hlv, mA13 hlv, mA15 hlv, m2, nI_clamp (by omega), (e4 _ hb).1, (e4 _ hb).2, m_many h6 hlv m1 (fun p hp => (hA.1 p hp).1), tb_in1 _ (by omega) _ (by omega)]
    obtain ⟨b1, b2⟩ := m_blow hT (fun p hp => (e3 p hp).2.2.1) hlv n9 m1 hA.1 (tnp T) (Nat.le_refl _)
    obtain ⟨b3, _⟩ := aBlow_ok (T := T) (decide (5 ≤ tno T a.2.2.1)) (a := (a.1, a.2.1)) hA.1 (tnp T)
    have eb : f_X5_blow (nI lv) (nI (tno T a.2.2.1)) (nI (tnp T)) v kd = l_X5_blow_8 (nI lv) (nI (tno T a.2.2.1)) kd v (tnp T) := by
      dsimp only [f_X5_blow, lxb]; rw [itn0 (by omega)]
    rw [eb]
    obtain ⟨l1, l2⟩ := m_lean hT (fun p hp => (e3 p hp).2.2) hlv b1 b3
    generalize f_X5_lean (nI lv) (nI (tnp T)) (l_X5_blow_8 (nI lv) (nI (tno T a.2.2.1)) kd v (tnp T)) kd lk = w at l1 l2 ⊢
    have hX : MX (16 * lv) v w := b2.trans l2
    have w13 : w (16 * lv + 13) = a.2.2.2.1 := (hX _ (by omega)).trans m3
    have w14 : w (16 * lv + 14) = nI a.2.2.2.2.1 := (hX _ (by omega)).trans m4
    have w15 : w (16 * lv + 15) = a.2.2.2.2.2 := (hX _ (by omega)).trans m5
    rw [w13, m_has]
    refine ⟨?_, ?_, ?_⟩
    · show nI (tno T a.2.2.1) * nI (aMany a.1 (tnp T)) = _
      rw [pk_mul]; unfold aNoise; rw [if_neg c]
    · have et : ∀ z : Int32, z = (if (if 1 ≤ trp T a.2.2.1 ∧ trp T a.2.2.1 ≤ tnb T then (1 : Int32) else 0) = 0 then (0 : Int32) else if (if aTaken a.2.2.2.1 a.2.2.1 = true then (1 : Int32) else 0) = 0 then 1 else 0) →
          (if z = 0 then nI a.2.2.1 + 1 else nI (trp T a.2.2.1) - 1) = nI (aTurn T a.2.2.1 a.2.2.2.1).1 ∧ a.2.2.2.1 ||| (if z = 0 then (0 : Int32) else 1 <<< (nI a.2.2.1 &&& 31)) = (aTurn T a.2.2.1 a.2.2.2.1).2 := by
        intro z ez
        by_cases c1 : 1 ≤ trp T a.2.2.1 ∧ trp T a.2.2.1 ≤ tnb T
        · rw [if_pos c1, if_neg (show ¬ (1 : Int32) = 0 by decide)] at ez
          by_cases c2 : aTaken a.2.2.2.1 a.2.2.1 = true
          · rw [if_pos c2, if_neg (show ¬ (1 : Int32) = 0 by decide)] at ez
            rw [aTurn_n (fun q => by rw [c2] at q; exact absurd q.2 (by decide)), ez, if_pos rfl, if_pos rfl, nI_1, Int32.or_zero]
            exact ⟨rfl, rfl⟩
          · rw [if_neg c2, if_pos rfl] at ez
            rw [aTurn_y ⟨c1, by simpa using c2⟩, ez, if_neg (show ¬ (1 : Int32) = 0 by decide), if_neg (show ¬ (1 : Int32) = 0 by decide), show (nI (trp T a.2.2.1) - 1 : Int32) = nI (trp T a.2.2.1 - 1) from pk_sub (b := 1) (by omega)]
            exact ⟨rfl, rfl⟩
        · rw [if_neg c1, if_pos rfl] at ez
          rw [aTurn_n (fun q => c1 q.1), ez, if_pos rfl, if_pos rfl, nI_1, Int32.or_zero]
          exact ⟨rfl, rfl⟩
      obtain ⟨t1, t2⟩ := et _ rfl
      have ep : aPass T a = ((aPlayers T (decide (5 ≤ tno T a.2.2.1)) (a.1, a.2.1)).1, (aPlayers T (decide (5 ≤ tno T a.2.2.1)) (a.1, a.2.1)).2, (aTurn T a.2.2.1 a.2.2.2.1).1, (aTurn T a.2.2.1 a.2.2.2.1).2, a.2.2.2.2.1, a.2.2.2.2.2 + 1) := by unfold aPass; rw [if_neg c]
      rw [ep]
      rw [t1, upd_n (show 16 * lv + 13 ≠ 16 * lv + 12 by omega), w13, t2, upd_n (show 16 * lv + 15 ≠ 16 * lv + 13 by omega), upd_n (show 16 * lv + 15 ≠ 16 * lv + 12 by omega), w15]
      exact MR.fin hT.1 l1 w14 _ _ _
    · exact hX.y.trans (((MY.up (by omega)).trans (MY.up (by omega))).trans (MY.up (by omega)))
