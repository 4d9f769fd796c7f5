/-! a concert made anew: equal -/
theorem e_fault {lc lm : Int32} {lt tx : Nat → Int32} (hX : XR lc lt lm tx) (d1 d2 d3 d4 d5 d6 rb rp : Nat → Int32) : (f_X4_fault lc lt d1 d2 d3 d4 d5 d6).1 = (f_X5_fault lm tx rb rp).1 := by
  unfold f_X4_fault f_X5_fault
  rw [lxb_y, lxb_y]
  exact (e_read hX d1 d2 d3 d4 d5 d6 rb rp).1
theorem zeroL (now : Nat → Int32) : ∀ k, k ≤ 16 → ∀ q, l_X5_concert_30 now k q = if q < k then 0 else now q := by
  intro k
  induction k with
  | zero => intro _ q; rw [if_neg (by omega)]; rfl
  | succ k ih =>
    intro hk q
    have ih := ih (by omega)
    rw [l_X5_concert_30]
    unfold b_X5_concert_30
    rw [mAk (show k < 16 by omega)]
    by_cases c : q = k
    · subst c
      rw [upd_s, if_pos (by omega)]
    · rw [upd_n c, ih q]
      by_cases d : q < k
      · rw [if_pos d, if_pos (by omega)]
      · rw [if_neg d, if_neg (by omega)]
theorem newPL {r1 : Int32 × Int32 × Int32 × Int32 × Int32 × (Nat → Int32) × (Nat → Int32)} {i0 : (Nat → Int32) × (Nat → Int32) × (Nat → Int32) × (Nat → Int32) × (Nat → Int32)} : ∀ k, k ≤ 6 → (∀ i, i < k → (l_X5_concert_51 r1 i0 k).1 (6 + i) = r1.2.2.2.2.2.2 (4 * i + 1) ∧ (l_X5_concert_51 r1 i0 k).2.1 i = r1.2.2.2.2.2.2 (4 * i) ∧ (l_X5_concert_51 r1 i0 k).2.2.1 i = r1.2.2.2.2.2.2 (4 * i + 1) ∧ (l_X5_concert_51 r1 i0 k).2.2.2.1 i = r1.2.2.2.2.2.2 (4 * i + 2) ∧ (l_X5_concert_51 r1 i0 k).2.2.2.2 i = r1.2.2.2.2.2.2 (4 * i + 3)) ∧ ∀ q, q < 6 ∨ 12 ≤ q → (l_X5_concert_51 r1 i0 k).1 q = i0.1 q := by
  intro k
  induction k with
  | zero => intro _; exact ⟨fun i h => absurd h (Nat.not_lt_zero _), fun _ _ => rfl⟩
  | succ k ih =>
    intro hk
    obtain ⟨h1, h2⟩ := ih (by omega)
    rw [l_X5_concert_51]
    generalize l_X5_concert_51 r1 i0 k = v at h1 h2 ⊢
    unfold b_X5_concert_51
    rw [c40 (show k < 10 by omega), show Int32.toNatClampNeg (4 * nI k + 1) = 4 * k + 1 from c4 (n := k) (c := 1) (by omega) (by decide), show Int32.toNatClampNeg (4 * nI k + 2) = 4 * k + 2 from c4 (n := k) (c := 2) (by omega) (by decide), show Int32.toNatClampNeg (4 * nI k + 3) = 4 * k + 3 from c4 (n := k) (c := 3) (by omega) (by decide), mAk (show k < 16 by omega), show Int32.toNatClampNeg (6 + nI k) = 6 + k by rw [show (6 : Int32) = nI 6 from rfl, nI_add, nI_clamp (by omega)]]
    simp only [lxb_y]
    rw [upd_s]
    refine ⟨fun i hi => ?_, fun q hq => ?_⟩
    · by_cases c : i = k
      · subst c
        rw [upd_s, upd_s, upd_s, upd_s, upd_s]
        exact ⟨rfl, rfl, rfl, rfl, rfl⟩
      · rw [upd_n (show 6 + i ≠ 6 + k by omega), upd_n c, upd_n c, upd_n c, upd_n c]
        exact h1 i (by omega)
    · rw [upd_n (by omega)]
      exact h2 q hq
theorem newBL {r1 : Int32 × Int32 × Int32 × Int32 × Int32 × (Nat → Int32) × (Nat → Int32)} {i0 : (Nat → Int32) × (Nat → Int32)} : ∀ k, k ≤ 8 → ∀ i, i < k → (l_X5_concert_144 r1 i0 k).1 i = r1.2.2.2.2.2.1 (2 * i) ∧ (l_X5_concert_144 r1 i0 k).2 i = r1.2.2.2.2.2.1 (2 * i + 1) := by
  intro k
  induction k with
  | zero => intro _ i h; exact absurd h (Nat.not_lt_zero _)
  | succ k ih =>
    intro hk i hi
    have h1 := ih (by omega)
    rw [l_X5_concert_144]
    generalize l_X5_concert_144 r1 i0 k = v at h1 ⊢
    unfold b_X5_concert_144
    rw [c20 (show k < 10 by omega), show Int32.toNatClampNeg (2 * nI k + 1) = 2 * k + 1 from c2 (n := k) (c := 1) (by omega) (by decide), mAk (show k < 16 by omega)]
    simp only [lxb_y]
    by_cases c : i = k
    · subst c
      rw [upd_s, upd_s]
      exact ⟨rfl, rfl⟩
    · rw [upd_n c, upd_n c]
      exact h1 i (by omega)
theorem begL {n : Nat} (hn : n ≤ 6) (wd w : Nat → Int32) : ∀ k, k ≤ 6 → ∀ p, p < k → p < n → l_X2_begin_35 (nI n) wd w k p = wd p := by
  intro k
  induction k with
  | zero => intro _ p h; exact absurd h (Nat.not_lt_zero _)
  | succ k ih =>
    intro hk p hp h
    have ih := ih (by omega)
    rw [l_X2_begin_35]
    unfold b_X2_begin_35
    simp only [lxb_y]
    rw [hasP (show k < 2 ^ 31 by omega) (by omega), at_in (show k < 6 by omega) (by decide), put_in (show k < 6 by omega) (by decide)]
    by_cases c : p = k
    · subst c
      rw [upd_s, if_pos h, if_neg (show ¬ (1 : Int32) = 0 by decide)]
    · rw [upd_n c]
      exact ih p (by omega) h
set_option maxRecDepth 100000 in
theorem tb_all1 : ∀ n, n < 7 → ∀ p, p < 6 → (2 ^ n - 1).testBit p = decide (p < n) := by decide +kernel
theorem e_concert {lc lm : Int32} {lt tx : Nat → Int32} (hX : XR lc lt lm tx) (tH dH : Nat) (ks : Int32) (d1 d2 d3 d4 d5 d6 rb rp : Nat → Int32) (pl pd nx tk ht tm : Int32) (wi : Nat → Int32) (q1 q2 pm bm ma : Int32) (now prm wdm kdm lkm nom rpm ik : Nat → Int32) (h28 : 0 ≤ now 28) {rc : Int32 × Nat × Nat × Int32 × Int32 × Int32 × (Nat → Int32) × (Nat → Int32) × (Nat → Int32) × (Nat → Int32) × (Nat → Int32) × (Nat → Int32) × Int32 × Int32 × Int32 × Int32 × Int32 × Int32 × (Nat → Int32) × Int32 × Int32} {rm : Int32 × Int32 × Int32 × Int32 × Int32 × Int32 × Int32 × Int32 × (Nat → Int32) × (Nat → Int32) × (Nat → Int32) × (Nat → Int32) × (Nat → Int32) × (Nat → Int32) × (Nat → Int32) × (Nat → Int32) × (Nat → Int32) × (Nat → Int32)}
    (ec : rc = f_X4_concert lc tH dH ks lt d1 d2 d3 d4 d5 d6 pl pd nx tk ht tm wi q1 q2) (em : rm = f_X5_concert pm bm lm ma tx rb rp now prm wdm kdm lkm nom rpm ik) : rc.1 = rm.1 ∧
    (((rc.2.1 = tH ∧ rc.2.2.1 = dH ∧ rc.2.2.2.1 = ks) ∧ (rc.2.2.2.2.2.2.2.2.2.2.2.2.1 = pl ∧ rc.2.2.2.2.2.2.2.2.2.2.2.2.2.1 = pd ∧ rc.2.2.2.2.2.2.2.2.2.2.2.2.2.2.1 = nx ∧ rc.2.2.2.2.2.2.2.2.2.2.2.2.2.2.2.1 = tk ∧ rc.2.2.2.2.2.2.2.2.2.2.2.2.2.2.2.2.1 = ht ∧ rc.2.2.2.2.2.2.2.2.2.2.2.2.2.2.2.2.2.1 = tm ∧ rc.2.2.2.2.2.2.2.2.2.2.2.2.2.2.2.2.2.2.1 = wi) ∧ (rc.2.2.2.2.2.2.2.2.2.2.2.2.2.2.2.2.2.2.2.1 = q1 ∧ rc.2.2.2.2.2.2.2.2.2.2.2.2.2.2.2.2.2.2.2.2 = q2) ∧ (rm.2.1 = pm ∧ rm.2.2.1 = bm ∧ rm.2.2.2.2.2.2.2.1 = ma) ∧ rm.2.2.2.2.2.2.2.2.2.2.1 = now ∧ (rm.2.2.2.2.2.2.2.2.2.2.2.1 = prm ∧ rm.2.2.2.2.2.2.2.2.2.2.2.2.1 = wdm ∧ rm.2.2.2.2.2.2.2.2.2.2.2.2.2.1 = kdm ∧ rm.2.2.2.2.2.2.2.2.2.2.2.2.2.2.1 = lkm ∧ rm.2.2.2.2.2.2.2.2.2.2.2.2.2.2.2.1 = nom ∧ rm.2.2.2.2.2.2.2.2.2.2.2.2.2.2.2.2.1 = rpm) ∧ rm.2.2.2.2.2.2.2.2.2.2.2.2.2.2.2.2.2 = ik) ∨
     ((rc.2.1 = dH ∧ rc.2.2.1 = tH ∧ rc.2.2.2.1 = 0) ∧ (rc.2.2.2.2.2.2.2.2.2.2.2.2.2.2.2.2.2.2.2.1 = 0 ∧ rc.2.2.2.2.2.2.2.2.2.2.2.2.2.2.2.2.2.2.2.2 = 0 ∧ rm.2.2.2.2.2.2.2.1 = 0) ∧ (rm.2.2.2.2.2.2.2.2.2.2.2.2.2.2.2.2.2 0 = 0 ∧ rm.2.2.2.2.2.2.2.2.2.2.2.2.2.2.2.2.2 1 = 0) ∧ ∃ T, TW T ∧ CT T rc.2.2.2.2.1 rc.2.2.2.2.2.1 rc.2.2.2.2.2.2.2.2.2.2.2.1 rc.2.2.2.2.2.2.2.2.2.2.1 rc.2.2.2.2.2.2.2.2.2.1 rc.2.2.2.2.2.2.2.2.1 rc.2.2.2.2.2.2.2.1 rc.2.2.2.2.2.2.1 ∧ CT T rm.2.1 rm.2.2.1 rm.2.2.2.2.2.2.2.2.2.2.2.1 rm.2.2.2.2.2.2.2.2.2.2.2.2.1 rm.2.2.2.2.2.2.2.2.2.2.2.2.2.1 rm.2.2.2.2.2.2.2.2.2.2.2.2.2.2.1 rm.2.2.2.2.2.2.2.2.2.2.2.2.2.2.2.1 rm.2.2.2.2.2.2.2.2.2.2.2.2.2.2.2.2.1 ∧ NW T rc.2.2.2.2.2.2.2.2.2.2.2.2.1 rc.2.2.2.2.2.2.2.2.2.2.2.2.2.1 rc.2.2.2.2.2.2.2.2.2.2.2.2.2.2.1 rc.2.2.2.2.2.2.2.2.2.2.2.2.2.2.2.1 rc.2.2.2.2.2.2.2.2.2.2.2.2.2.2.2.2.1 rc.2.2.2.2.2.2.2.2.2.2.2.2.2.2.2.2.2.1 rc.2.2.2.2.2.2.2.2.2.2.2.2.2.2.2.2.2.2.1 rm.2.2.2.2.2.2.2.2.2.2.1)) := by
  obtain ⟨r1, r2⟩ := e_read hX d1 d2 d3 d4 d5 d6 rb rp
  unfold f_X4_concert at ec
  unfold f_X5_concert at em
  generalize f_X3_read lc 56 lt d1 d2 d3 d4 d5 d6 = u at r1 r2 ec
  generalize f_X5_readText lm tx rb rp = v at r1 r2 em
  simp only [lxb_y] at ec em
  by_cases c : u.1 = -9
  · obtain ⟨n, m, n6, m8, e1, e2, e3, e4, hP, hB⟩ := r2 c
    rw [if_pos c] at ec
    rw [if_pos (r1.symm.trans c)] at em
    unfold f_X2_begin at ec
    simp only [lxb_y] at ec
    rw [e1, e3, (tb_every n (by omega)).1, show itn 0 6 = 6 by decide +kernel] at ec
    rw [e2, e4, show itn 0 16 = 16 by decide +kernel, itn0 (show n < 2 ^ 31 by omega), itn0 (show m < 2 ^ 31 by omega)] at em
    obtain ⟨g1, g2⟩ := newPL (r1 := v) (i0 := (l_X5_concert_30 now 16, prm, wdm, kdm, lkm)) n n6
    have g3 := newBL (r1 := v) (i0 := (nom, rpm)) m m8
    have g4 := begL n6 u.2.2.2.2.2.2.2.1 wi 6 (Nat.le_refl _)
    generalize l_X5_concert_51 v (l_X5_concert_30 now 16, prm, wdm, kdm, lkm) n = x at g1 g2 em
    generalize l_X5_concert_144 v (nom, rpm) m = y at g3 em
    generalize l_X2_begin_35 (nI n) u.2.2.2.2.2.2.2.1 wi 6 = z at g4 ec
    subst ec em
    refine ⟨rfl, Or.inr ⟨⟨rfl, rfl, rfl⟩, ⟨rfl, rfl, rfl⟩, ⟨?_, ?_⟩, ⟨n, m, fun i => Int32.toNatClampNeg (u.2.2.2.2.2.2.2.2 i), fun i => Int32.toNatClampNeg (u.2.2.2.2.2.2.2.1 i), fun i => Int32.toNatClampNeg (u.2.2.2.2.2.2.1 i), fun i => Int32.toNatClampNeg (u.2.2.2.2.2.1 i), fun i => Int32.toNatClampNeg (u.2.2.2.2.1 i), fun i => Int32.toNatClampNeg (u.2.2.2.1 i)⟩, ⟨n6, m8, fun p hp => ?_, fun b hb => ?_⟩, ⟨rfl, rfl, fun p hp => ?_, fun b hb => ?_⟩, ⟨rfl, rfl, fun p hp => ?_, fun b hb => ?_⟩, ⟨(fun _ => 0, fun i => Int32.toNatClampNeg (u.2.2.2.2.2.2.2.1 i), 0, 0, 0, 0), ⟨fun p hp => ?_, Nat.zero_le _, Nat.zero_le 99⟩, fun _ => rfl, ⟨⟨⟨2 ^ n - 1, ?_, rfl, fun p hp => ?_⟩, fun p hp => ?_⟩, ⟨0, by decide, rfl, fun p hp => ?_⟩, rfl, rfl, rfl, rfl⟩, ⟨fun p hp => ?_, ?_, ?_, ?_, ?_⟩, ?_⟩⟩⟩
    · show upd (upd ik 0 (vp_nar .boolean 0)) 1 (vp_nar .boolean 0) 0 = 0
      rw [upd_n (by decide), upd_s]; rfl
    · show upd (upd ik 0 (vp_nar .boolean 0)) 1 (vp_nar .boolean 0) 1 = 0
      rw [upd_s]; rfl
    · obtain ⟨p', w', k', l', a1, a2, a3, a4, ⟨a5, _⟩, ⟨a6, _⟩, ⟨a7, _⟩, ⟨a8, _⟩⟩ := hP p hp
      show Int32.toNatClampNeg (u.2.2.2.2.2.2.2.2 p) ≤ 9 ∧ Int32.toNatClampNeg (u.2.2.2.2.2.2.2.1 p) ≤ 9 ∧ Int32.toNatClampNeg (u.2.2.2.2.2.2.1 p) ≤ 3 ∧ Int32.toNatClampNeg (u.2.2.2.2.2.1 p) ≤ 5
      rw [a5, a6, a7, a8, mAk (by omega), mAk (by omega), mAk (by omega), mAk (by omega)]
      exact ⟨a1, a2, a3, a4⟩
    · obtain ⟨o', r', a1, a2, ⟨a3, _⟩, ⟨a4, _⟩⟩ := hB b hb
      show Int32.toNatClampNeg (u.2.2.2.2.1 b) ≤ 9 ∧ Int32.toNatClampNeg (u.2.2.2.1 b) ≤ 7
      rw [a3, a4, mAk (by omega), mAk (by omega)]
      exact ⟨a1, a2⟩
    · obtain ⟨p', w', k', l', a1, a2, a3, a4, ⟨a5, _⟩, ⟨a6, _⟩, ⟨a7, _⟩, ⟨a8, _⟩⟩ := hP p hp
      show u.2.2.2.2.2.2.2.2 p = nI (Int32.toNatClampNeg (u.2.2.2.2.2.2.2.2 p)) ∧ u.2.2.2.2.2.2.2.1 p = nI (Int32.toNatClampNeg (u.2.2.2.2.2.2.2.1 p)) ∧ u.2.2.2.2.2.2.1 p = nI (Int32.toNatClampNeg (u.2.2.2.2.2.2.1 p)) ∧ u.2.2.2.2.2.1 p = nI (Int32.toNatClampNeg (u.2.2.2.2.2.1 p))
      rw [a5, a6, a7, a8, mAk (by omega), mAk (by omega), mAk (by omega), mAk (by omega)]
      exact ⟨rfl, rfl, rfl, rfl⟩
    · obtain ⟨o', r', a1, a2, ⟨a3, _⟩, ⟨a4, _⟩⟩ := hB b hb
      show u.2.2.2.2.1 b = nI (Int32.toNatClampNeg (u.2.2.2.2.1 b)) ∧ u.2.2.2.1 b = nI (Int32.toNatClampNeg (u.2.2.2.1 b))
      rw [a3, a4, mAk (by omega), mAk (by omega)]
      exact ⟨rfl, rfl⟩
    · obtain ⟨p', w', k', l', a1, a2, a3, a4, ⟨a5, b5⟩, ⟨a6, b6⟩, ⟨a7, b7⟩, ⟨a8, b8⟩⟩ := hP p hp
      obtain ⟨_, x2, x3, x4, x5⟩ := g1 p hp
      show x.2.1 p = nI (Int32.toNatClampNeg (u.2.2.2.2.2.2.2.2 p)) ∧ x.2.2.1 p = nI (Int32.toNatClampNeg (u.2.2.2.2.2.2.2.1 p)) ∧ x.2.2.2.1 p = nI (Int32.toNatClampNeg (u.2.2.2.2.2.2.1 p)) ∧ x.2.2.2.2 p = nI (Int32.toNatClampNeg (u.2.2.2.2.2.1 p))
      rw [a5, a6, a7, a8, mAk (by omega), mAk (by omega), mAk (by omega), mAk (by omega), x2, x3, x4, x5]
      exact ⟨b5, b6, b7, b8⟩
    · obtain ⟨o', r', a1, a2, ⟨a3, b3⟩, ⟨a4, b4⟩⟩ := hB b hb
      obtain ⟨y1, y2⟩ := g3 b hb
      show y.1 b = nI (Int32.toNatClampNeg (u.2.2.2.2.1 b)) ∧ y.2 b = nI (Int32.toNatClampNeg (u.2.2.2.1 b))
      rw [a3, a4, mAk (by omega), mAk (by omega), y1, y2]
      exact ⟨b3, b4⟩
    · obtain ⟨p', w', k', l', a1, a2, a3, a4, ⟨a5, _⟩, ⟨a6, _⟩, ⟨a7, _⟩, ⟨a8, _⟩⟩ := hP p hp
      show 0 ≤ 2 ∧ Int32.toNatClampNeg (u.2.2.2.2.2.2.2.1 p) ≤ 9
      rw [a6, mAk (by omega)]
      exact ⟨by decide, a2⟩
    · have h2 : 2 ^ n ≤ 2 ^ 6 := Nat.pow_le_pow_right (by decide) n6
      omega
    · rw [tb_all1 n (by omega) p hp]
      simp [tnp]
    · obtain ⟨p', w', k', l', a1, a2, a3, a4, ⟨a5, _⟩, ⟨a6, _⟩, ⟨a7, _⟩, ⟨a8, _⟩⟩ := hP p hp
      have hp : p < n := hp
      show z p = nI (Int32.toNatClampNeg (u.2.2.2.2.2.2.2.1 p))
      rw [g4 p (by omega) hp, a6, mAk (by omega)]
    · rw [Nat.zero_testBit]
      simp
    · obtain ⟨p', w', k', l', a1, a2, a3, a4, ⟨a5, b5⟩, ⟨a6, b6⟩, ⟨a7, b7⟩, ⟨a8, b8⟩⟩ := hP p hp
      have hp : p < n := hp
      show x.1 (0 + p) = nI 0 ∧ x.1 (0 + 6 + p) = nI (Int32.toNatClampNeg (u.2.2.2.2.2.2.2.1 p))
      rw [Nat.zero_add, Nat.zero_add, g2 p (Or.inl (by omega)), (g1 p hp).1, b6, a6, mAk (by omega)]
      exact ⟨(zeroL now 16 (Nat.le_refl _) p).trans (if_pos (by omega)), rfl⟩
    · show x.1 (0 + 12) = nI 0
      rw [g2 (0 + 12) (Or.inr (by decide))]
      exact (zeroL now 16 (Nat.le_refl _) (0 + 12)).trans (if_pos (by decide))
    · show x.1 (0 + 13) = 0
      rw [g2 (0 + 13) (Or.inr (by decide))]
      exact (zeroL now 16 (Nat.le_refl _) (0 + 13)).trans (if_pos (by decide))
    · show x.1 (0 + 14) = nI 0
      rw [g2 (0 + 14) (Or.inr (by decide))]
      exact (zeroL now 16 (Nat.le_refl _) (0 + 14)).trans (if_pos (by decide))
    · show x.1 (0 + 15) = 0
      rw [g2 (0 + 15) (Or.inr (by decide))]
      exact (zeroL now 16 (Nat.le_refl _) (0 + 15)).trans (if_pos (by decide))
    · show 0 ≤ x.1 28
      rw [g2 28 (Or.inr (by decide)), show (l_X5_concert_30 now 16, prm, wdm, kdm, lkm).1 28 = now 28 from (zeroL now 16 (Nat.le_refl _) 28).trans (if_neg (by decide))]
      exact h28
  · rw [if_neg c] at ec
    rw [if_neg (fun q => c (r1.trans q))] at em
    subst ec em
    exact ⟨rfl, Or.inl ⟨⟨rfl, rfl, rfl⟩, ⟨rfl, rfl, rfl, rfl, rfl, rfl, rfl⟩, ⟨rfl, rfl⟩, ⟨rfl, rfl, rfl⟩, rfl, ⟨rfl, rfl, rfl, rfl, rfl, rfl⟩, rfl⟩⟩
