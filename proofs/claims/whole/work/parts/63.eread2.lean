/-! the text, read: equal -/
def PRW (n : Nat) (pr wd kd lk rp : Nat → Int32) : Prop := ∀ i, i < n → ∃ p w k l, p ≤ 9 ∧ w ≤ 9 ∧ k ≤ 3 ∧ l ≤ 5 ∧ (pr i = nI p ∧ rp (4 * i) = nI p) ∧ (wd i = nI w ∧ rp (4 * i + 1) = nI w) ∧ (kd i = nI k ∧ rp (4 * i + 2) = nI k) ∧ (lk i = nI l ∧ rp (4 * i + 3) = nI l)
def BRW (m : Nat) (no rpt rb : Nat → Int32) : Prop := ∀ i, i < m → ∃ o r, o ≤ 9 ∧ r ≤ 7 ∧ (no i = nI o ∧ rb (2 * i) = nI o) ∧ (rpt i = nI r ∧ rb (2 * i + 1) = nI r)
def RD (rc : Int32 × Int32 × Int32 × (Nat → Int32) × (Nat → Int32) × (Nat → Int32) × (Nat → Int32) × (Nat → Int32) × (Nat → Int32)) (rm : Int32 × Int32 × Int32 × Int32 × Int32 × (Nat → Int32) × (Nat → Int32)) : Prop := rc.1 = rm.1 ∧ (rc.1 = -9 → ∃ n m, n ≤ 6 ∧ m ≤ 8 ∧ rc.2.1 = nI n ∧ rm.2.1 = nI n ∧ rc.2.2.1 = nI m ∧ rm.2.2.1 = nI m ∧ PRW n rc.2.2.2.2.2.2.2.2 rc.2.2.2.2.2.2.2.1 rc.2.2.2.2.2.2.1 rc.2.2.2.2.2.1 rm.2.2.2.2.2.2 ∧ BRW m rc.2.2.2.2.1 rc.2.2.2.1 rm.2.2.2.2.2.1)
theorem RD.stop {rc : Int32 × Int32 × Int32 × (Nat → Int32) × (Nat → Int32) × (Nat → Int32) × (Nat → Int32) × (Nat → Int32) × (Nat → Int32)} {rm : Int32 × Int32 × Int32 × Int32 × Int32 × (Nat → Int32) × (Nat → Int32)} {f : Nat} (hf : f ≤ 56) (h1 : rc.1 = nI f) (h2 : rm.1 = nI f) : RD rc rm := ⟨h1.trans h2.symm, fun q => absurd (h1.symm.trans q) (mNe9 rfl (by omega))⟩
theorem rd_stop {l : Int32} {tx : Nat → Int32} {fuel f : Nat} (h : 1 ≤ fuel) (hf : f ≤ 56) {n m at' : Int32} {rb rp : Nat → Int32} : (l_X5_readText_46 l tx fuel (n, m, at', nI f, rb, rp)).1 = nI f := by
  obtain ⟨g, rfl⟩ : ∃ g, fuel = g + 1 := ⟨fuel - 1, by omega⟩
  rw [l_X5_readText_46]
  dsimp only
  rw [if_neg (mNe9 rfl (by omega))]
theorem c4 {n c : Nat} (hn : n < 10) (hc : c < 4) : Int32.toNatClampNeg (4 * nI n + nI c) = 4 * n + c := by
  rw [show (4 : Int32) = nI 4 from rfl, pk_mul, nI_add, nI_clamp (by omega)]
theorem c40 {n : Nat} (hn : n < 10) : Int32.toNatClampNeg (4 * nI n) = 4 * n := by
  rw [show (4 : Int32) = nI 4 from rfl, pk_mul, nI_clamp (by omega)]
theorem c2 {n c : Nat} (hn : n < 10) (hc : c < 2) : Int32.toNatClampNeg (2 * nI n + nI c) = 2 * n + c := by
  rw [show (2 : Int32) = nI 2 from rfl, pk_mul, nI_add, nI_clamp (by omega)]
theorem c20 {n : Nat} (hn : n < 10) : Int32.toNatClampNeg (2 * nI n) = 2 * n := by
  rw [show (2 : Int32) = nI 2 from rfl, pk_mul, nI_clamp (by omega)]
theorem PRW.more {n : Nat} {pr wd kd lk rp : Nat → Int32} (h : PRW n pr wd kd lk rp) {p w k l : Nat} (h1 : p ≤ 9) (h2 : w ≤ 9) (h3 : k ≤ 3) (h4 : l ≤ 5) : PRW (n + 1) (upd pr n (nI p)) (upd wd n (nI w)) (upd kd n (nI k)) (upd lk n (nI l)) (upd (upd (upd (upd rp (4 * n) (nI p)) (4 * n + 1) (nI w)) (4 * n + 2) (nI k)) (4 * n + 3) (nI l)) := fun i hi => by
  by_cases c : i = n
  · subst c
    refine ⟨p, w, k, l, h1, h2, h3, h4, ⟨upd_s, ?_⟩, ⟨upd_s, ?_⟩, ⟨upd_s, ?_⟩, ⟨upd_s, upd_s⟩⟩
    · rw [upd_n (by omega), upd_n (by omega), upd_n (by omega), upd_s]
    · rw [upd_n (by omega), upd_n (by omega), upd_s]
    · rw [upd_n (by omega), upd_s]
  · obtain ⟨p', w', k', l', g1, g2, g3, g4, g5, g6, g7, g8⟩ := h i (by omega)
    refine ⟨p', w', k', l', g1, g2, g3, g4, ?_⟩
    rw [upd_n c, upd_n c, upd_n c, upd_n c]
    rw [upd_n (show 4 * i ≠ 4 * n + 3 by omega), upd_n (show 4 * i ≠ 4 * n + 2 by omega), upd_n (show 4 * i ≠ 4 * n + 1 by omega), upd_n (show 4 * i ≠ 4 * n by omega)]
    rw [upd_n (show 4 * i + 1 ≠ 4 * n + 3 by omega), upd_n (show 4 * i + 1 ≠ 4 * n + 2 by omega), upd_n (show 4 * i + 1 ≠ 4 * n + 1 by omega), upd_n (show 4 * i + 1 ≠ 4 * n by omega)]
    rw [upd_n (show 4 * i + 2 ≠ 4 * n + 3 by omega), upd_n (show 4 * i + 2 ≠ 4 * n + 2 by omega), upd_n (show 4 * i + 2 ≠ 4 * n + 1 by omega), upd_n (show 4 * i + 2 ≠ 4 * n by omega)]
    rw [upd_n (show 4 * i + 3 ≠ 4 * n + 3 by omega), upd_n (show 4 * i + 3 ≠ 4 * n + 2 by omega), upd_n (show 4 * i + 3 ≠ 4 * n + 1 by omega), upd_n (show 4 * i + 3 ≠ 4 * n by omega)]
    exact ⟨g5, g6, g7, g8⟩
theorem BRW.more {n : Nat} {no rpt rb : Nat → Int32} (h : BRW n no rpt rb) {o r : Nat} (h1 : o ≤ 9) (h2 : r ≤ 7) : BRW (n + 1) (upd no n (nI o)) (upd rpt n (nI r)) (upd (upd rb (2 * n) (nI o)) (2 * n + 1) (nI r)) := fun i hi => by
  by_cases c : i = n
  · subst c
    refine ⟨o, r, h1, h2, ⟨upd_s, ?_⟩, ⟨upd_s, upd_s⟩⟩
    rw [upd_n (by omega), upd_s]
  · obtain ⟨o', r', g1, g2, g3, g4⟩ := h i (by omega)
    refine ⟨o', r', g1, g2, ?_⟩
    rw [upd_n c, upd_n c]
    rw [upd_n (show 2 * i ≠ 2 * n + 1 by omega), upd_n (show 2 * i ≠ 2 * n by omega)]
    rw [upd_n (show 2 * i + 1 ≠ 2 * n + 1 by omega), upd_n (show 2 * i + 1 ≠ 2 * n by omega)]
    exact ⟨g3, g4⟩
theorem e_readL {L : Nat} (hL : L ≤ 56) {lt tx : Nat → Int32} (hx : ∀ i, i < L → lt i = tx i) : ∀ R r, r ≤ R → ∀ (k n m fuel : Nat) (z : Int32) (rpr nor lkr kdr wdr prr rb rp : Nat → Int32), k + 1 + r = L → n ≤ 6 → m ≤ 8 → r + 1 ≤ fuel → PRW n prr wdr kdr lkr rp → BRW m nor rpr rb →
    RD (l_X3_read_35 (nI L) 56 lt r k (z, 0, nI n, nI m, rpr, nor, lkr, kdr, wdr, prr)) (l_X5_readText_46 (nI L) tx fuel (nI n, nI m, nI (k + 1), -9, rb, rp)) := by
  intro R
  induction R with
  | zero =>
    intro r hr k n m fuel z rpr nor lkr kdr wdr prr rb rp hk hn hm hf hP hB
    have : r = 0 := by omega
    subst this
    obtain ⟨g, rfl⟩ : ∃ g, fuel = g + 1 := ⟨fuel - 1, by omega⟩
    rw [l_X3_read_35, l_X5_readText_46]
    dsimp only
    rw [if_pos (show (0 : Int32) = 0 from rfl), if_pos (show (-9 : Int32) = -9 from rfl), if_pos (show nI L ≤ nI (k + 1) from nI_le (by omega) (by omega))]
    exact ⟨rfl, fun _ => ⟨n, m, hn, hm, rfl, rfl, rfl, rfl, hP, hB⟩⟩
  | succ R ih =>
    intro r hr k n m fuel z rpr nor lkr kdr wdr prr rb rp hk hn hm hf hP hB
    obtain ⟨g, rfl⟩ : ∃ g, fuel = g + 1 := ⟨fuel - 1, by omega⟩
    cases r with
    | zero => exact ih 0 (Nat.zero_le _) k n m (g + 1) z rpr nor lkr kdr wdr prr rb rp hk hn hm hf hP hB
    | succ r =>
      rw [l_X3_read_35, l_X5_readText_46]
      dsimp only
      rw [at_in (show k + 1 < 56 by omega) (by decide), hx (k + 1) (by omega), lxb_y, if_pos (show (0 : Int32) = 0 from rfl), if_pos (show (-9 : Int32) = -9 from rfl), if_neg (show ¬ nI L ≤ nI (k + 1) from nI_ge (by omega) (by omega)), nI_clamp (show k + 1 < 2 ^ 31 by omega)]
      have stop : ∀ (c : Int32), f_X3_figuresOfNewPart c (nI n) (nI m) = (0, nI n, nI m) → f_X5_readPart c (nI n) (nI m) (nI L) (nI (k + 1)) (-9) tx rb rp = (nI n, nI m, nI (k + 1), nI (k + 1), rb, rp) → ∀ c2 : Int32, RD (lxb c2 (fun z7 => lxb (f_X3_figuresOfNewPart c (nI n) (nI m)) (fun r8 => if r8.1 = 0 then (nI (k + 1), r8.2.1, r8.2.2, rpr, nor, lkr, kdr, wdr, prr) else l_X3_read_35 (nI L) 56 lt r (k + 1) (z7, r8.1, r8.2.1, r8.2.2, rpr, nor, lkr, kdr, wdr, prr)))) (lxb (f_X5_readPart c (nI n) (nI m) (nI L) (nI (k + 1)) (-9) tx rb rp) (fun r1 => l_X5_readText_46 (nI L) tx g (r1.1, r1.2.1, r1.2.2.1, r1.2.2.2.1, r1.2.2.2.2.1, r1.2.2.2.2.2))) := fun c e1 e2 c2 => by
        rw [e1, e2]
        simp only [lxb_y]
        rw [if_pos True.intro]
        exact RD.stop (f := k + 1) (by omega) rfl (rd_stop (by omega) (by omega))
      have bars : ∀ (c : Int32), f_X3_figuresOfNewPart c (nI n) (nI m) = (2, nI n, nI (m + 1)) → m < 8 → f_X5_readPart c (nI n) (nI m) (nI L) (nI (k + 1)) (-9) tx rb rp = lxb (f_X5_figureOf 0 9 (nI L) (nI (k + 1) + 1) (-9) tx) (fun r1 => lxb (f_X5_figureOf 0 7 (nI L) r1.2.1 r1.2.2 tx) (fun r3 => (nI n, (nI m + 1), r3.2.1, r3.2.2, (upd (upd rb (Int32.toNatClampNeg (2 * nI m)) r1.1) (Int32.toNatClampNeg ((2 * nI m) + 1)) r3.1), rp))) → RD (lxb 0 (fun z7 => lxb (f_X3_figuresOfNewPart c (nI n) (nI m)) (fun r8 => if r8.1 = 0 then (nI (k + 1), r8.2.1, r8.2.2, rpr, nor, lkr, kdr, wdr, prr) else l_X3_read_35 (nI L) 56 lt r (k + 1) (z7, r8.1, r8.2.1, r8.2.2, rpr, nor, lkr, kdr, wdr, prr)))) (lxb (f_X5_readPart c (nI n) (nI m) (nI L) (nI (k + 1)) (-9) tx rb rp) (fun r1 => l_X5_readText_46 (nI L) tx g (r1.1, r1.2.1, r1.2.2.1, r1.2.2.2.1, r1.2.2.2.2.1, r1.2.2.2.2.2))) := fun c e1 m8 e2 => by
        rw [e1, e2, nI_1, c20 (by omega), show Int32.toNatClampNeg (2 * nI m + 1) = 2 * m + 1 from c2 (n := m) (c := 1) (by omega) (by decide)]
        simp only [lxb_y]
        first | rw [if_neg (show ¬ (2 : Int32) = 0 by decide)] | rw [if_neg (show ¬ False from id)]
        rcases figB2 (L := L) (k := k + 1) (r := r) (n := m) hL (by omega) m8 hx (nI n) rpr nor lkr kdr wdr prr with ⟨f, f1, f2, f3⟩ | ⟨o, r2, o1, _, o2, o3, o4⟩
        · rw [f3]
          dsimp only
          rw [fig_bad (show ¬ nI f = -9 from mNe9 rfl (by omega))]
          exact RD.stop f1 f2 (rd_stop (by omega) f1)
        · rw [o3, o4]
          dsimp only
          rcases figB1 (L := L) (k := k + 1 + 1) (r := r2) (n := m) hL (by omega) m8 hx (nI n) rpr (upd nor m (nI o)) lkr kdr wdr prr with ⟨f, f1, f2, f3⟩ | ⟨y, r3, y1, _, y2, y3, y4⟩
          · rw [show f_X5_figureOf 0 7 (nI L) (nI (k + 1 + 2)) (-9) tx = _ from f3]
            exact RD.stop f1 f2 (rd_stop (by omega) f1)
          · rw [y3, show f_X5_figureOf 0 7 (nI L) (nI (k + 1 + 2)) (-9) tx = _ from y4, nI_1]
            exact ih r3 (by omega) (k + 1 + 1 + 1) n (m + 1) g 0 _ _ _ _ _ _ _ _ (by omega) hn (by omega) (by omega) hP (hB.more o2 y2)
      by_cases c80 : tx (k + 1) = 80
      · by_cases c6 : n = 6
        · rw [c80]
          refine stop 80 ?_ ?_ _
          · unfold f_X3_figuresOfNewPart
            rw [if_pos (show (80 : Int32) = 80 from rfl), if_pos (show (6 : Int32) ≤ nI n by rw [c6]; decide), if_neg (show ¬ (80 : Int32) = 66 by decide)]
          · unfold f_X5_readPart
            rw [if_pos (show (80 : Int32) = 80 from rfl), if_pos (show (6 : Int32) ≤ nI n by rw [c6]; decide), if_neg (show ¬ (80 : Int32) = 66 by decide)]
        · have n6 : n < 6 := by omega
          rw [c80, if_pos (show (80 : Int32) = 80 from rfl)]
          unfold f_X3_figuresOfNewPart f_X5_readPart
          rw [if_pos (show (80 : Int32) = 80 from rfl), if_pos (show (80 : Int32) = 80 from rfl), if_neg (show ¬ (6 : Int32) ≤ nI n from nI_ge (b := 6) n6 (by decide)), if_neg (show ¬ (6 : Int32) ≤ nI n from nI_ge (b := 6) n6 (by decide)), nI_1, nI_1, c40 (by omega), show Int32.toNatClampNeg (4 * nI n + 1) = 4 * n + 1 from c4 (n := n) (c := 1) (by omega) (by decide), show Int32.toNatClampNeg (4 * nI n + 2) = 4 * n + 2 from c4 (n := n) (c := 2) (by omega) (by decide), show Int32.toNatClampNeg (4 * nI n + 3) = 4 * n + 3 from c4 (n := n) (c := 3) (by omega) (by decide)]
          simp only [lxb_y]
          first | rw [if_neg (show ¬ (4 : Int32) = 0 by decide)] | rw [if_neg (show ¬ False from id)]
          rcases figP4 (L := L) (k := k + 1) (r := r) (n := n) hL (by omega) n6 hx (nI m) rpr nor lkr kdr wdr prr with ⟨f, f1, f2, f3⟩ | ⟨p, r2, p1, _, p2, p3, p4⟩
          · rw [show f_X5_figureOf 1 9 (nI L) (nI (k + 1 + 1)) (-9) tx = _ from f3]
            dsimp only
            have nf : ¬ nI f = -9 := mNe9 rfl (by omega)
            rw [fig_bad nf]; dsimp only
            rw [fig_bad nf]; dsimp only
            rw [fig_bad nf]
            exact RD.stop f1 f2 (rd_stop (by omega) f1)
          · rw [p3, show f_X5_figureOf 1 9 (nI L) (nI (k + 1 + 1)) (-9) tx = _ from p4]
            dsimp only
            rcases figP3 (L := L) (k := k + 1 + 1) (r := r2) (n := n) hL (by omega) n6 hx (nI m) rpr nor lkr kdr wdr (upd prr n (nI p)) with ⟨f, f1, f2, f3⟩ | ⟨w, r3, w1, _, w2, w3, w4⟩
            · rw [show f_X5_figureOf 0 9 (nI L) (nI (k + 1 + 2)) (-9) tx = _ from f3]
              dsimp only
              have nf : ¬ nI f = -9 := mNe9 rfl (by omega)
              rw [fig_bad nf]; dsimp only
              rw [fig_bad nf]
              exact RD.stop f1 f2 (rd_stop (by omega) f1)
            · rw [w3, show f_X5_figureOf 0 9 (nI L) (nI (k + 1 + 2)) (-9) tx = _ from w4]
              dsimp only
              rcases figP2 (L := L) (k := k + 1 + 1 + 1) (r := r3) (n := n) hL (by omega) n6 hx (nI m) rpr nor lkr kdr (upd wdr n (nI w)) (upd prr n (nI p)) with ⟨f, f1, f2, f3⟩ | ⟨y, r4, y1, _, y2, y3, y4⟩
              · rw [show f_X5_figureOf 0 3 (nI L) (nI (k + 1 + 1 + 2)) (-9) tx = _ from f3]
                dsimp only
                have nf : ¬ nI f = -9 := mNe9 rfl (by omega)
                rw [fig_bad nf]
                exact RD.stop f1 f2 (rd_stop (by omega) f1)
              · rw [y3, show f_X5_figureOf 0 3 (nI L) (nI (k + 1 + 1 + 2)) (-9) tx = _ from y4]
                dsimp only
                rcases figP1 (L := L) (k := k + 1 + 1 + 1 + 1) (r := r4) (n := n) hL (by omega) n6 hx (nI m) rpr nor lkr (upd kdr n (nI y)) (upd wdr n (nI w)) (upd prr n (nI p)) with ⟨f, f1, f2, f3⟩ | ⟨u, r5, u1, _, u2, u3, u4⟩
                · rw [show f_X5_figureOf 0 5 (nI L) (nI (k + 1 + 1 + 1 + 2)) (-9) tx = _ from f3]
                  exact RD.stop f1 f2 (rd_stop (by omega) f1)
                · rw [u3, show f_X5_figureOf 0 5 (nI L) (nI (k + 1 + 1 + 1 + 2)) (-9) tx = _ from u4]
                  exact ih r5 (by omega) (k + 1 + 1 + 1 + 1 + 1) (n + 1) m g 1 _ _ _ _ _ _ _ _ (by omega) (by omega) hm (by omega) (hP.more p2 w2 y2 u2) hB
      · rw [if_neg c80]
        by_cases c66 : tx (k + 1) = 66
        · rw [c66]
          by_cases c8 : m = 8
          · refine stop 66 ?_ ?_ _
            · unfold f_X3_figuresOfNewPart
              rw [if_neg (show ¬ (66 : Int32) = 80 by decide), if_pos (show (66 : Int32) = 66 from rfl), if_pos (show (8 : Int32) ≤ nI m by rw [c8]; decide)]
            · unfold f_X5_readPart
              rw [if_neg (show ¬ (66 : Int32) = 80 by decide), if_pos (show (66 : Int32) = 66 from rfl), if_pos (show (8 : Int32) ≤ nI m by rw [c8]; decide)]
          · have m8 : m < 8 := by omega
            refine bars 66 ?_ m8 ?_
            · unfold f_X3_figuresOfNewPart
              rw [if_neg (show ¬ (66 : Int32) = 80 by decide), if_pos (show (66 : Int32) = 66 from rfl), if_neg (show ¬ (8 : Int32) ≤ nI m from nI_ge (b := 8) m8 (by decide)), nI_1]
            · unfold f_X5_readPart
              rw [if_neg (show ¬ (66 : Int32) = 80 by decide), if_pos (show (66 : Int32) = 66 from rfl), if_neg (show ¬ (8 : Int32) ≤ nI m from nI_ge (b := 8) m8 (by decide))]
        · refine stop _ ?_ ?_ _
          · unfold f_X3_figuresOfNewPart
            rw [if_neg c80, if_neg c66]
          · unfold f_X5_readPart
            rw [if_neg c80, if_neg c66]
theorem e_read {lc lm : Int32} {lt tx : Nat → Int32} (hX : XR lc lt lm tx) (d1 d2 d3 d4 d5 d6 rb rp : Nat → Int32) : RD (f_X3_read lc 56 lt d1 d2 d3 d4 d5 d6) (f_X5_readText lm tx rb rp) := by
  obtain ⟨L, hL, rfl, rfl, hx⟩ := hX
  unfold f_X3_read f_X5_readText
  by_cases c : L = 0
  · subst c
    rw [if_pos (show nI 0 < 1 by decide), if_pos (show nI 0 = 0 from rfl)]
    exact RD.stop (f := 0) (by decide) rfl rfl
  · rw [if_neg (show ¬ nI L < (1 : Int32) from nI_nlt (b := 1) (by omega) (by omega)), if_neg (nI_ne0 (by omega) (by omega)), show f_X4_at 0 56 lt = lt 0 from at_in (p := 0) (by decide) (by decide), hx 0 (by omega), lxb_y, show Int32.toNatClampNeg 0 = 0 from rfl]
    by_cases c79 : tx 0 = 79
    · rw [if_pos c79, if_pos c79, show itn 1 (nI L) = L - 1 by
        unfold itn
        rw [nI_toInt (by omega), show (1 : Int32).toInt = 1 from rfl]
        omega]
      exact e_readL hL hx L (L - 1) (by omega) 0 0 0 60 0 _ _ _ _ _ _ _ _ (by omega) (by decide) (by decide) (by omega) (fun i h => absurd h (Nat.not_lt_zero _)) (fun i h => absurd h (Nat.not_lt_zero _))
    · rw [if_neg c79, if_neg c79]
      exact RD.stop (f := 0) (by decide) rfl rfl
