/-! the text, read: class and model -/
theorem m_fig {lo hi L q : Nat} (hL : L ≤ 56) (hq : q ≤ L) (h1 : hi + 1 < 2 ^ 31) (h2 : lo < 2 ^ 31) (tx : Nat → Int32) :
    (∃ f, f ≤ 56 ∧ f_X5_figureOf (nI lo) (nI hi) (nI L) (nI q) (-9) tx = (0, nI q, nI f) ∧ f = q ∧ (q = L ∨ (tx q - 48 < nI lo ∨ nI hi < tx q - 48))) ∨ (∃ v, q < L ∧ lo ≤ v ∧ v ≤ hi ∧ tx q - 48 = nI v ∧ f_X5_figureOf (nI lo) (nI hi) (nI L) (nI q) (-9) tx = (nI v, nI (q + 1), -9)) := by
  unfold f_X5_figureOf
  rw [if_pos rfl, if_pos rfl, nI_l (show lo < 2 ^ 31 by omega), nI_l (show hi < 2 ^ 31 by omega), nI_clamp (show q < 2 ^ 31 by omega)]
  by_cases c : q = L
  · rw [if_pos (show nI L ≤ nI q from nI_le (by omega) (by omega)), lxb_y]
    exact Or.inl ⟨q, by omega, rfl, rfl, Or.inl c⟩
  · rw [if_neg (show ¬ nI L ≤ nI q from nI_ge (by omega) (by omega))]
    simp only [lxb_y]
    rcases rng (tx q - 48) lo hi h1 h2 with ⟨v, v1, v2, v3⟩ | w
    · rw [v3, in_y v1 v2 (by omega), if_neg (show ¬ (1 : Int32) = 0 by decide), nI_1]
      exact Or.inr ⟨v, by omega, v1, v2, rfl, rfl⟩
    · rw [in_n w (by omega) (by omega), if_pos (show (0 : Int32) = 0 from rfl)]
      exact Or.inl ⟨q, by omega, rfl, rfl, Or.inr w⟩
theorem fig_bad {x0 x1 l at' fa : Int32} {tx : Nat → Int32} (h : ¬ fa = -9) : f_X5_figureOf x0 x1 l at' fa tx = (0, at', fa) := by
  unfold f_X5_figureOf
  rw [if_neg h, lxb_y, if_neg h]
theorem take_no {x1 x2 : Int32} {lo hi N : Nat} {v : Nat → Int32} (h : x2 < nI lo ∨ nI hi < x2) : f_X3_takeWithin x1 x2 (nI lo) (nI hi) N v = (0, v) := by
  unfold f_X3_takeWithin
  by_cases c : x2 < nI lo
  · rw [if_pos c]
  · have : ¬ x2 ≤ nI hi := by
      rcases h with q | q
      · exact absurd q c
      · exact Int32.not_le.mpr q
    rw [if_neg c, if_neg this]
theorem take_ok {n z lo hi N : Nat} {v : Nat → Int32} (h1 : lo ≤ z) (h2 : z ≤ hi) (h3 : hi < 2 ^ 31) (hn : n < N) (hN : N < 2 ^ 31) : f_X3_takeWithin (nI (n + 1) - 1) (nI z) (nI lo) (nI hi) N v = (1, upd v n (nI z)) := by
  unfold f_X3_takeWithin
  rw [if_neg (show ¬ nI z < nI lo from nI_nlt h1 (by omega)), if_pos (show nI z ≤ nI hi from nI_le h2 h3), nI_p, put_in hn hN, lxb_y]
theorem figP4 {L k r n : Nat} (hL : L ≤ 56) (hk : k + 1 + r = L) (hn : n < 6) {lt tx : Nat → Int32} (hx : ∀ i, i < L → lt i = tx i) (bn : Int32) (rpr nor lkr kdr wdr prr : Nat → Int32) :
    (∃ f, f ≤ 56 ∧ (l_X3_read_35 (nI L) 56 lt r k (1, 4, nI (n + 1), bn, rpr, nor, lkr, kdr, wdr, prr)).1 = nI f ∧ f_X5_figureOf 1 9 (nI L) (nI (k + 1)) (-9) tx = (0, nI (k + 1), nI f)) ∨ (∃ v r', r = r' + 1 ∧ 1 ≤ v ∧ v ≤ 9 ∧ l_X3_read_35 (nI L) 56 lt r k (1, 4, nI (n + 1), bn, rpr, nor, lkr, kdr, wdr, prr) = l_X3_read_35 (nI L) 56 lt r' (k + 1) (1, 3, nI (n + 1), bn, rpr, nor, lkr, kdr, wdr, upd prr n (nI v)) ∧ f_X5_figureOf 1 9 (nI L) (nI (k + 1)) (-9) tx = (nI v, nI (k + 2), -9)) := by
  have m := m_fig (lo := 1) (hi := 9) (L := L) (q := k + 1) hL (by omega) (by decide) (by decide) tx
  rcases m with ⟨f, f1, f2, f3, f4⟩ | ⟨v, v1, v2, v3, v4, v5⟩
  · refine Or.inl ⟨f, f1, ?_, f2⟩
    cases r with
    | zero =>
      rw [l_X3_read_35]
      dsimp only
      rw [if_neg (show ¬ (4 : Int32) = 0 by decide), f3]
      show nI L = nI (k + 1)
      rw [show L = k + 1 by omega]
    | succ r =>
      rcases f4 with q | q
      · exact absurd q (by omega)
      · have t : f_X3_takePlayerFigure 4 (tx (k + 1) - 48) (nI (n + 1)) lkr kdr wdr prr = (0, lkr, kdr, wdr, prr) := by
          unfold f_X3_takePlayerFigure
          rw [if_neg (show ¬ (4 : Int32) = 1 by decide), if_neg (show ¬ (4 : Int32) = 2 by decide), if_neg (show ¬ (4 : Int32) = 3 by decide), if_pos (show (4 : Int32) = 4 from rfl), show f_X3_takeWithin (nI (n + 1) - 1) (tx (k + 1) - 48) 1 9 6 prr = (0, prr) from take_no (lo := 1) (hi := 9) q, lxb_y]
        rw [l_X3_read_35]
        dsimp only
        rw [at_in (show k + 1 < 56 by omega) (by decide), hx (k + 1) (by omega), lxb_y, if_neg (show ¬ (4 : Int32) = 0 by decide), if_neg (show ¬ (1 : Int32) = 0 by decide), t, lxb_y, if_pos (show (0 : Int32) = 0 from rfl), f3]
  · obtain ⟨r, rfl⟩ : ∃ g, r = g + 1 := ⟨r - 1, by omega⟩
    refine Or.inr ⟨v, r, rfl, v2, v3, ?_, v5⟩
    have t : f_X3_takePlayerFigure 4 (nI v) (nI (n + 1)) lkr kdr wdr prr = (1, lkr, kdr, wdr, upd prr n (nI v)) := by
      unfold f_X3_takePlayerFigure
      rw [if_neg (show ¬ (4 : Int32) = 1 by decide), if_neg (show ¬ (4 : Int32) = 2 by decide), if_neg (show ¬ (4 : Int32) = 3 by decide), if_pos (show (4 : Int32) = 4 from rfl), show f_X3_takeWithin (nI (n + 1) - 1) (nI v) 1 9 6 prr = (1, upd prr n (nI v)) from take_ok (lo := 1) (hi := 9) v2 v3 (by decide) hn (by decide), lxb_y]
    rw [l_X3_read_35]
    dsimp only
    rw [at_in (show k + 1 < 56 by omega) (by decide), hx (k + 1) (by omega), lxb_y, if_neg (show ¬ (4 : Int32) = 0 by decide), if_neg (show ¬ (1 : Int32) = 0 by decide), v4, t, lxb_y, if_neg (show ¬ (1 : Int32) = 0 by decide), lxb_y, show (4 : Int32) + (-1) = 3 by decide]
theorem figP3 {L k r n : Nat} (hL : L ≤ 56) (hk : k + 1 + r = L) (hn : n < 6) {lt tx : Nat → Int32} (hx : ∀ i, i < L → lt i = tx i) (bn : Int32) (rpr nor lkr kdr wdr prr : Nat → Int32) :
    (∃ f, f ≤ 56 ∧ (l_X3_read_35 (nI L) 56 lt r k (1, 3, nI (n + 1), bn, rpr, nor, lkr, kdr, wdr, prr)).1 = nI f ∧ f_X5_figureOf 0 9 (nI L) (nI (k + 1)) (-9) tx = (0, nI (k + 1), nI f)) ∨ (∃ v r', r = r' + 1 ∧ 0 ≤ v ∧ v ≤ 9 ∧ l_X3_read_35 (nI L) 56 lt r k (1, 3, nI (n + 1), bn, rpr, nor, lkr, kdr, wdr, prr) = l_X3_read_35 (nI L) 56 lt r' (k + 1) (1, 2, nI (n + 1), bn, rpr, nor, lkr, kdr, upd wdr n (nI v), prr) ∧ f_X5_figureOf 0 9 (nI L) (nI (k + 1)) (-9) tx = (nI v, nI (k + 2), -9)) := by
  have m := m_fig (lo := 0) (hi := 9) (L := L) (q := k + 1) hL (by omega) (by decide) (by decide) tx
  rcases m with ⟨f, f1, f2, f3, f4⟩ | ⟨v, v1, v2, v3, v4, v5⟩
  · refine Or.inl ⟨f, f1, ?_, f2⟩
    cases r with
    | zero =>
      rw [l_X3_read_35]
      dsimp only
      rw [if_neg (show ¬ (3 : Int32) = 0 by decide), f3]
      show nI L = nI (k + 1)
      rw [show L = k + 1 by omega]
    | succ r =>
      rcases f4 with q | q
      · exact absurd q (by omega)
      · have t : f_X3_takePlayerFigure 3 (tx (k + 1) - 48) (nI (n + 1)) lkr kdr wdr prr = (0, lkr, kdr, wdr, prr) := by
          unfold f_X3_takePlayerFigure
          rw [if_neg (show ¬ (3 : Int32) = 1 by decide), if_neg (show ¬ (3 : Int32) = 2 by decide), if_pos (show (3 : Int32) = 3 from rfl), show f_X3_takeWithin (nI (n + 1) - 1) (tx (k + 1) - 48) 0 9 6 wdr = (0, wdr) from take_no (lo := 0) (hi := 9) q, lxb_y]
        rw [l_X3_read_35]
        dsimp only
        rw [at_in (show k + 1 < 56 by omega) (by decide), hx (k + 1) (by omega), lxb_y, if_neg (show ¬ (3 : Int32) = 0 by decide), if_neg (show ¬ (1 : Int32) = 0 by decide), t, lxb_y, if_pos (show (0 : Int32) = 0 from rfl), f3]
  · obtain ⟨r, rfl⟩ : ∃ g, r = g + 1 := ⟨r - 1, by omega⟩
    refine Or.inr ⟨v, r, rfl, v2, v3, ?_, v5⟩
    have t : f_X3_takePlayerFigure 3 (nI v) (nI (n + 1)) lkr kdr wdr prr = (1, lkr, kdr, upd wdr n (nI v), prr) := by
      unfold f_X3_takePlayerFigure
      rw [if_neg (show ¬ (3 : Int32) = 1 by decide), if_neg (show ¬ (3 : Int32) = 2 by decide), if_pos (show (3 : Int32) = 3 from rfl), show f_X3_takeWithin (nI (n + 1) - 1) (nI v) 0 9 6 wdr = (1, upd wdr n (nI v)) from take_ok (lo := 0) (hi := 9) v2 v3 (by decide) hn (by decide), lxb_y]
    rw [l_X3_read_35]
    dsimp only
    rw [at_in (show k + 1 < 56 by omega) (by decide), hx (k + 1) (by omega), lxb_y, if_neg (show ¬ (3 : Int32) = 0 by decide), if_neg (show ¬ (1 : Int32) = 0 by decide), v4, t, lxb_y, if_neg (show ¬ (1 : Int32) = 0 by decide), lxb_y, show (3 : Int32) + (-1) = 2 by decide]
theorem figP2 {L k r n : Nat} (hL : L ≤ 56) (hk : k + 1 + r = L) (hn : n < 6) {lt tx : Nat → Int32} (hx : ∀ i, i < L → lt i = tx i) (bn : Int32) (rpr nor lkr kdr wdr prr : Nat → Int32) :
    (∃ f, f ≤ 56 ∧ (l_X3_read_35 (nI L) 56 lt r k (1, 2, nI (n + 1), bn, rpr, nor, lkr, kdr, wdr, prr)).1 = nI f ∧ f_X5_figureOf 0 3 (nI L) (nI (k + 1)) (-9) tx = (0, nI (k + 1), nI f)) ∨ (∃ v r', r = r' + 1 ∧ 0 ≤ v ∧ v ≤ 3 ∧ l_X3_read_35 (nI L) 56 lt r k (1, 2, nI (n + 1), bn, rpr, nor, lkr, kdr, wdr, prr) = l_X3_read_35 (nI L) 56 lt r' (k + 1) (1, 1, nI (n + 1), bn, rpr, nor, lkr, upd kdr n (nI v), wdr, prr) ∧ f_X5_figureOf 0 3 (nI L) (nI (k + 1)) (-9) tx = (nI v, nI (k + 2), -9)) := by
  have m := m_fig (lo := 0) (hi := 3) (L := L) (q := k + 1) hL (by omega) (by decide) (by decide) tx
  rcases m with ⟨f, f1, f2, f3, f4⟩ | ⟨v, v1, v2, v3, v4, v5⟩
  · refine Or.inl ⟨f, f1, ?_, f2⟩
    cases r with
    | zero =>
      rw [l_X3_read_35]
      dsimp only
      rw [if_neg (show ¬ (2 : Int32) = 0 by decide), f3]
      show nI L = nI (k + 1)
      rw [show L = k + 1 by omega]
    | succ r =>
      rcases f4 with q | q
      · exact absurd q (by omega)
      · have t : f_X3_takePlayerFigure 2 (tx (k + 1) - 48) (nI (n + 1)) lkr kdr wdr prr = (0, lkr, kdr, wdr, prr) := by
          unfold f_X3_takePlayerFigure
          rw [if_neg (show ¬ (2 : Int32) = 1 by decide), if_pos (show (2 : Int32) = 2 from rfl), show f_X3_takeWithin (nI (n + 1) - 1) (tx (k + 1) - 48) 0 3 6 kdr = (0, kdr) from take_no (lo := 0) (hi := 3) q, lxb_y]
        rw [l_X3_read_35]
        dsimp only
        rw [at_in (show k + 1 < 56 by omega) (by decide), hx (k + 1) (by omega), lxb_y, if_neg (show ¬ (2 : Int32) = 0 by decide), if_neg (show ¬ (1 : Int32) = 0 by decide), t, lxb_y, if_pos (show (0 : Int32) = 0 from rfl), f3]
  · obtain ⟨r, rfl⟩ : ∃ g, r = g + 1 := ⟨r - 1, by omega⟩
    refine Or.inr ⟨v, r, rfl, v2, v3, ?_, v5⟩
    have t : f_X3_takePlayerFigure 2 (nI v) (nI (n + 1)) lkr kdr wdr prr = (1, lkr, upd kdr n (nI v), wdr, prr) := by
      unfold f_X3_takePlayerFigure
      rw [if_neg (show ¬ (2 : Int32) = 1 by decide), if_pos (show (2 : Int32) = 2 from rfl), show f_X3_takeWithin (nI (n + 1) - 1) (nI v) 0 3 6 kdr = (1, upd kdr n (nI v)) from take_ok (lo := 0) (hi := 3) v2 v3 (by decide) hn (by decide), lxb_y]
    rw [l_X3_read_35]
    dsimp only
    rw [at_in (show k + 1 < 56 by omega) (by decide), hx (k + 1) (by omega), lxb_y, if_neg (show ¬ (2 : Int32) = 0 by decide), if_neg (show ¬ (1 : Int32) = 0 by decide), v4, t, lxb_y, if_neg (show ¬ (1 : Int32) = 0 by decide), lxb_y, show (2 : Int32) + (-1) = 1 by decide]
theorem figP1 {L k r n : Nat} (hL : L ≤ 56) (hk : k + 1 + r = L) (hn : n < 6) {lt tx : Nat → Int32} (hx : ∀ i, i < L → lt i = tx i) (bn : Int32) (rpr nor lkr kdr wdr prr : Nat → Int32) :
    (∃ f, f ≤ 56 ∧ (l_X3_read_35 (nI L) 56 lt r k (1, 1, nI (n + 1), bn, rpr, nor, lkr, kdr, wdr, prr)).1 = nI f ∧ f_X5_figureOf 0 5 (nI L) (nI (k + 1)) (-9) tx = (0, nI (k + 1), nI f)) ∨ (∃ v r', r = r' + 1 ∧ 0 ≤ v ∧ v ≤ 5 ∧ l_X3_read_35 (nI L) 56 lt r k (1, 1, nI (n + 1), bn, rpr, nor, lkr, kdr, wdr, prr) = l_X3_read_35 (nI L) 56 lt r' (k + 1) (1, 0, nI (n + 1), bn, rpr, nor, upd lkr n (nI v), kdr, wdr, prr) ∧ f_X5_figureOf 0 5 (nI L) (nI (k + 1)) (-9) tx = (nI v, nI (k + 2), -9)) := by
  have m := m_fig (lo := 0) (hi := 5) (L := L) (q := k + 1) hL (by omega) (by decide) (by decide) tx
  rcases m with ⟨f, f1, f2, f3, f4⟩ | ⟨v, v1, v2, v3, v4, v5⟩
  · refine Or.inl ⟨f, f1, ?_, f2⟩
    cases r with
    | zero =>
      rw [l_X3_read_35]
      dsimp only
      rw [if_neg (show ¬ (1 : Int32) = 0 by decide), f3]
      show nI L = nI (k + 1)
      rw [show L = k + 1 by omega]
    | succ r =>
      rcases f4 with q | q
      · exact absurd q (by omega)
      · have t : f_X3_takePlayerFigure 1 (tx (k + 1) - 48) (nI (n + 1)) lkr kdr wdr prr = (0, lkr, kdr, wdr, prr) := by
          unfold f_X3_takePlayerFigure
          rw [if_pos (show (1 : Int32) = 1 from rfl), show f_X3_takeWithin (nI (n + 1) - 1) (tx (k + 1) - 48) 0 5 6 lkr = (0, lkr) from take_no (lo := 0) (hi := 5) q, lxb_y]
        rw [l_X3_read_35]
        dsimp only
        rw [at_in (show k + 1 < 56 by omega) (by decide), hx (k + 1) (by omega), lxb_y, if_neg (show ¬ (1 : Int32) = 0 by decide), if_neg (show ¬ (1 : Int32) = 0 by decide), t, lxb_y, if_pos (show (0 : Int32) = 0 from rfl), f3]
  · obtain ⟨r, rfl⟩ : ∃ g, r = g + 1 := ⟨r - 1, by omega⟩
    refine Or.inr ⟨v, r, rfl, v2, v3, ?_, v5⟩
    have t : f_X3_takePlayerFigure 1 (nI v) (nI (n + 1)) lkr kdr wdr prr = (1, upd lkr n (nI v), kdr, wdr, prr) := by
      unfold f_X3_takePlayerFigure
      rw [if_pos (show (1 : Int32) = 1 from rfl), show f_X3_takeWithin (nI (n + 1) - 1) (nI v) 0 5 6 lkr = (1, upd lkr n (nI v)) from take_ok (lo := 0) (hi := 5) v2 v3 (by decide) hn (by decide), lxb_y]
    rw [l_X3_read_35]
    dsimp only
    rw [at_in (show k + 1 < 56 by omega) (by decide), hx (k + 1) (by omega), lxb_y, if_neg (show ¬ (1 : Int32) = 0 by decide), if_neg (show ¬ (1 : Int32) = 0 by decide), v4, t, lxb_y, if_neg (show ¬ (1 : Int32) = 0 by decide), lxb_y, show (1 : Int32) + (-1) = 0 by decide]
theorem figB2 {L k r n : Nat} (hL : L ≤ 56) (hk : k + 1 + r = L) (hn : n < 8) {lt tx : Nat → Int32} (hx : ∀ i, i < L → lt i = tx i) (bn : Int32) (rpr nor lkr kdr wdr prr : Nat → Int32) :
    (∃ f, f ≤ 56 ∧ (l_X3_read_35 (nI L) 56 lt r k (0, 2, bn, nI (n + 1), rpr, nor, lkr, kdr, wdr, prr)).1 = nI f ∧ f_X5_figureOf 0 9 (nI L) (nI (k + 1)) (-9) tx = (0, nI (k + 1), nI f)) ∨ (∃ v r', r = r' + 1 ∧ 0 ≤ v ∧ v ≤ 9 ∧ l_X3_read_35 (nI L) 56 lt r k (0, 2, bn, nI (n + 1), rpr, nor, lkr, kdr, wdr, prr) = l_X3_read_35 (nI L) 56 lt r' (k + 1) (0, 1, bn, nI (n + 1), rpr, upd nor n (nI v), lkr, kdr, wdr, prr) ∧ f_X5_figureOf 0 9 (nI L) (nI (k + 1)) (-9) tx = (nI v, nI (k + 2), -9)) := by
  have m := m_fig (lo := 0) (hi := 9) (L := L) (q := k + 1) hL (by omega) (by decide) (by decide) tx
  rcases m with ⟨f, f1, f2, f3, f4⟩ | ⟨v, v1, v2, v3, v4, v5⟩
  · refine Or.inl ⟨f, f1, ?_, f2⟩
    cases r with
    | zero =>
      rw [l_X3_read_35]
      dsimp only
      rw [if_neg (show ¬ (2 : Int32) = 0 by decide), f3]
      show nI L = nI (k + 1)
      rw [show L = k + 1 by omega]
    | succ r =>
      rcases f4 with q | q
      · exact absurd q (by omega)
      · have t : f_X3_takeBarFigure 2 (tx (k + 1) - 48) (nI (n + 1)) rpr nor = (0, rpr, nor) := by
          unfold f_X3_takeBarFigure
          rw [if_neg (show ¬ (2 : Int32) = 1 by decide), if_pos (show (2 : Int32) = 2 from rfl), show f_X3_takeWithin (nI (n + 1) - 1) (tx (k + 1) - 48) 0 9 8 nor = (0, nor) from take_no (lo := 0) (hi := 9) q, lxb_y]
        rw [l_X3_read_35]
        dsimp only
        rw [at_in (show k + 1 < 56 by omega) (by decide), hx (k + 1) (by omega), lxb_y, if_neg (show ¬ (2 : Int32) = 0 by decide), if_pos (show (0 : Int32) = 0 from rfl), t, lxb_y, if_pos (show (0 : Int32) = 0 from rfl), f3]
  · obtain ⟨r, rfl⟩ : ∃ g, r = g + 1 := ⟨r - 1, by omega⟩
    refine Or.inr ⟨v, r, rfl, v2, v3, ?_, v5⟩
    have t : f_X3_takeBarFigure 2 (nI v) (nI (n + 1)) rpr nor = (1, rpr, upd nor n (nI v)) := by
      unfold f_X3_takeBarFigure
      rw [if_neg (show ¬ (2 : Int32) = 1 by decide), if_pos (show (2 : Int32) = 2 from rfl), show f_X3_takeWithin (nI (n + 1) - 1) (nI v) 0 9 8 nor = (1, upd nor n (nI v)) from take_ok (lo := 0) (hi := 9) v2 v3 (by decide) hn (by decide), lxb_y]
    rw [l_X3_read_35]
    dsimp only
    rw [at_in (show k + 1 < 56 by omega) (by decide), hx (k + 1) (by omega), lxb_y, if_neg (show ¬ (2 : Int32) = 0 by decide), if_pos (show (0 : Int32) = 0 from rfl), v4, t, lxb_y, if_neg (show ¬ (1 : Int32) = 0 by decide), lxb_y, show (2 : Int32) + (-1) = 1 by decide]
theorem figB1 {L k r n : Nat} (hL : L ≤ 56) (hk : k + 1 + r = L) (hn : n < 8) {lt tx : Nat → Int32} (hx : ∀ i, i < L → lt i = tx i) (bn : Int32) (rpr nor lkr kdr wdr prr : Nat → Int32) :
    (∃ f, f ≤ 56 ∧ (l_X3_read_35 (nI L) 56 lt r k (0, 1, bn, nI (n + 1), rpr, nor, lkr, kdr, wdr, prr)).1 = nI f ∧ f_X5_figureOf 0 7 (nI L) (nI (k + 1)) (-9) tx = (0, nI (k + 1), nI f)) ∨ (∃ v r', r = r' + 1 ∧ 0 ≤ v ∧ v ≤ 7 ∧ l_X3_read_35 (nI L) 56 lt r k (0, 1, bn, nI (n + 1), rpr, nor, lkr, kdr, wdr, prr) = l_X3_read_35 (nI L) 56 lt r' (k + 1) (0, 0, bn, nI (n + 1), upd rpr n (nI v), nor, lkr, kdr, wdr, prr) ∧ f_X5_figureOf 0 7 (nI L) (nI (k + 1)) (-9) tx = (nI v, nI (k + 2), -9)) := by
  have m := m_fig (lo := 0) (hi := 7) (L := L) (q := k + 1) hL (by omega) (by decide) (by decide) tx
  rcases m with ⟨f, f1, f2, f3, f4⟩ | ⟨v, v1, v2, v3, v4, v5⟩
  · refine Or.inl ⟨f, f1, ?_, f2⟩
    cases r with
    | zero =>
      rw [l_X3_read_35]
      dsimp only
      rw [if_neg (show ¬ (1 : Int32) = 0 by decide), f3]
      show nI L = nI (k + 1)
      rw [show L = k + 1 by omega]
    | succ r =>
      rcases f4 with q | q
      · exact absurd q (by omega)
      · have t : f_X3_takeBarFigure 1 (tx (k + 1) - 48) (nI (n + 1)) rpr nor = (0, rpr, nor) := by
          unfold f_X3_takeBarFigure
          rw [if_pos (show (1 : Int32) = 1 from rfl), show f_X3_takeWithin (nI (n + 1) - 1) (tx (k + 1) - 48) 0 7 8 rpr = (0, rpr) from take_no (lo := 0) (hi := 7) q, lxb_y]
        rw [l_X3_read_35]
        dsimp only
        rw [at_in (show k + 1 < 56 by omega) (by decide), hx (k + 1) (by omega), lxb_y, if_neg (show ¬ (1 : Int32) = 0 by decide), if_pos (show (0 : Int32) = 0 from rfl), t, lxb_y, if_pos (show (0 : Int32) = 0 from rfl), f3]
  · obtain ⟨r, rfl⟩ : ∃ g, r = g + 1 := ⟨r - 1, by omega⟩
    refine Or.inr ⟨v, r, rfl, v2, v3, ?_, v5⟩
    have t : f_X3_takeBarFigure 1 (nI v) (nI (n + 1)) rpr nor = (1, upd rpr n (nI v), nor) := by
      unfold f_X3_takeBarFigure
      rw [if_pos (show (1 : Int32) = 1 from rfl), show f_X3_takeWithin (nI (n + 1) - 1) (nI v) 0 7 8 rpr = (1, upd rpr n (nI v)) from take_ok (lo := 0) (hi := 7) v2 v3 (by decide) hn (by decide), lxb_y]
    rw [l_X3_read_35]
    dsimp only
    rw [at_in (show k + 1 < 56 by omega) (by decide), hx (k + 1) (by omega), lxb_y, if_neg (show ¬ (1 : Int32) = 0 by decide), if_pos (show (0 : Int32) = 0 from rfl), v4, t, lxb_y, if_neg (show ¬ (1 : Int32) = 0 by decide), lxb_y, show (1 : Int32) + (-1) = 0 by decide]
