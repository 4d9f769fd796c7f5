/-! the row of acts, and what is kept -/
theorem nI_p (n : Nat) : nI (n + 1) - 1 = nI n := by rw [← nI_1, Int32.add_sub_cancel]
theorem mA16 {m k : Nat} (hm : m < 100) (hk : k < 16) : Int32.toNatClampNeg ((16 * nI m) + nI k) = 16 * m + k := by
  rw [show (16 : Int32) = nI 16 from rfl, pk_mul, nI_add, nI_clamp (by omega)]
/-- one kept moment: the class's slot j, the model's slot m -/
def SL (T : TDt) (b0 b1 b2 b3 b4 b5 : Nat → Int32) (br : Nat → Nat → Int32) (row : Nat → Int32) (j m : Nat) : Prop := ∃ a, AW T a ∧ AK T a ∧ CM T a (b0 j) (b1 j) (b2 j) (b3 j) (b4 j) (b5 j) (br j) ∧ MR T 0 a (fun q => row (16 * m + q))
theorem SL.keep {T : TDt} (hT : TW T) {b0 b1 b2 b3 b4 b5 c0 c1 c2 c3 c4 c5 : Nat → Int32} {br cr : Nat → Nat → Int32} {row row' : Nat → Int32} {j m : Nat} (h : SL T b0 b1 b2 b3 b4 b5 br row j m) (e0 : c0 j = b0 j) (e1 : c1 j = b1 j) (e2 : c2 j = b2 j) (e3 : c3 j = b3 j) (e4 : c4 j = b4 j) (e5 : c5 j = b5 j) (er : cr j = br j) (e : ∀ q, q < 16 → row' (16 * m + q) = row (16 * m + q)) : SL T c0 c1 c2 c3 c4 c5 cr row' j m := by
  obtain ⟨a, h1, h2, h3, h4⟩ := h
  refine ⟨a, h1, h2, ?_, h4.low hT e⟩
  rw [e0, e1, e2, e3, e4, e5, er]
  exact h3
def RG (T : TDt) (q1 q2 ma mn : Int32) (b0 b1 b2 b3 b4 b5 : Nat → Int32) (br : Nat → Nat → Int32) (row : Nat → Int32) : Prop := ∃ f g s, f < 14 ∧ g < 14 ∧ s ≤ 14 ∧ q1 = nI f ∧ q2 = nI s ∧ ma = nI s ∧ mn = nI ((g + s) % 14) ∧ ∀ i, i < s → SL T b0 b1 b2 b3 b4 b5 br row ((f + i) % 14) ((g + i) % 14)
theorem keepL {nx : Nat} (hn : nx < 14) (now row : Nat → Int32) : ∀ k, k ≤ 16 → ∀ q, l_X5_keepAct_2 (nI nx) now row k q = if 16 * nx ≤ q ∧ q < 16 * nx + k then now (q - 16 * nx) else row q := by
  intro k
  induction k with
  | zero => intro _ q; rw [if_neg (by omega)]; rfl
  | succ k ih =>
    intro hk q
    have ih := ih (by omega)
    rw [l_X5_keepAct_2]
    unfold b_X5_keepAct_2
    rw [lxb_y, mA16 (by omega) (show k < 16 by omega), mAk (show k < 16 by omega)]
    by_cases c : q = 16 * nx + k
    · subst c
      rw [upd_s, if_pos (by omega), Nat.add_sub_cancel_left]
    · rw [upd_n c, ih q]
      by_cases d : 16 * nx ≤ q ∧ q < 16 * nx + k
      · rw [if_pos d, if_pos (by omega)]
      · rw [if_neg d, if_neg (by omega)]
theorem m_keep {s nx : Nat} (hs : s ≤ 14) (hn : nx < 14) (now row : Nat → Int32) : (f_X5_keepAct (nI s) (nI nx) now row).1 = nI (if s = 14 then 14 else s + 1) ∧ (f_X5_keepAct (nI s) (nI nx) now row).2.1 = nI ((nx + 1) % 14) ∧ ∀ q, (f_X5_keepAct (nI s) (nI nx) now row).2.2 q = if 16 * nx ≤ q ∧ q < 16 * nx + 16 then now (q - 16 * nx) else row q := by
  unfold f_X5_keepAct
  rw [show itn 0 16 = 16 by decide +kernel]
  simp only [lxb_y]
  refine ⟨?_, ?_, fun q => keepL hn now row 16 (Nat.le_refl _) q⟩
  · by_cases c : s = 14
    · rw [if_pos (show (14 : Int32) ≤ nI s by rw [c]; decide), if_pos c]; rfl
    · rw [if_neg (show ¬ (14 : Int32) ≤ nI s from nI_ge (b := 14) (by omega) (by decide)), if_neg c, nI_1]
  · exact nx_irem (nI_1 nx) (show (14 : Int32) = nI 14 from rfl) (by omega) (by omega) (by omega)
theorem mom_at {n j : Nat} (hn : n < 2 ^ 31) (hj : j < n) (f : Nat → Option Nat) : f_X4_momentAt (nI j) n f = f j := by
  unfold f_X4_momentAt
  rw [if_neg (nI_pos (show j < 2 ^ 31 by omega)), if_neg (nI_ge hj hn), nI_clamp (by omega)]
theorem c_add {f s : Nat} (hf : f < 14) (hs : s ≤ 14) (m1 m2 m3 m4 m5 m6 : Int32) (ba : Nat → Nat) (b0 b1 b2 b3 b4 b5 : Nat → Int32) (br : Nat → Nat → Int32) (mw : Nat → Int32) {r3 : Int32 × Int32 × Int32 × Int32 × Int32 × Int32 × (Nat → Int32)} (e3 : r3 = f_X2_become m1 m2 m3 m4 m5 m6 mw (br ((f + s) % 14))) : f_X0_add (nI f) (nI s) m1 m2 m3 m4 m5 m6 ba b0 b1 b2 b3 b4 b5 br mw = (nI (if s = 14 then (f + 1) % 14 else f), nI (if s = 14 then 14 else s + 1), va_up b0 ((f + s) % 14) r3.1, va_up b1 ((f + s) % 14) r3.2.1, va_up b2 ((f + s) % 14) r3.2.2.1, va_up b3 ((f + s) % 14) r3.2.2.2.1, va_up b4 ((f + s) % 14) r3.2.2.2.2.1, va_up b5 ((f + s) % 14) r3.2.2.2.2.2.1, va_up br ((f + s) % 14) r3.2.2.2.2.2.2) := by
  subst e3
  have e : (nI f + nI s) - (nI f + nI s) / 14 * 14 = nI ((f + s) % 14) := nx_irem (nI_add f s) (show (14 : Int32) = nI 14 from rfl) (by omega) (by omega) (by omega)
  have hj : (f + s) % 14 < 14 := Nat.mod_lt _ (by decide)
  unfold f_X0_add
  rw [e, mom_at (by decide) hj, lxb_y, if_neg (show ¬ some (ba ((f + s) % 14)) = none from fun q => by cases q), nI_clamp (by omega)]
  simp only [lxb_y]
  by_cases c : s = 14
  · have e2 : (nI f + 1) - (nI f + 1) / 14 * 14 = nI ((f + 1) % 14) := nx_irem (nI_1 f) (show (14 : Int32) = nI 14 from rfl) (by omega) (by omega) (by omega)
    rw [if_pos (show (14 : Int32) ≤ nI s by rw [c]; decide), if_pos c, if_pos c, e2, c]
  · rw [if_neg (show ¬ (14 : Int32) ≤ nI s from nI_ge (b := 14) (by omega) (by decide)), if_neg c, if_neg c, nI_1]
theorem RG.add {T : TDt} (hT : TW T) {q1 q2 ma mn : Int32} {b0 b1 b2 b3 b4 b5 : Nat → Int32} {br : Nat → Nat → Int32} {row : Nat → Int32} (h : RG T q1 q2 ma mn b0 b1 b2 b3 b4 b5 br row) {a : AS} (hA : AW T a) (hK : AK T a) {m1 m2 m3 m4 m5 m6 : Int32} {mw now : Nat → Int32} (hC : CM T a m1 m2 m3 m4 m5 m6 mw) (hM : MR T 0 a now) (ba : Nat → Nat) {r : Int32 × Int32 × (Nat → Int32) × (Nat → Int32) × (Nat → Int32) × (Nat → Int32) × (Nat → Int32) × (Nat → Int32) × (Nat → Nat → Int32)} (er : r = f_X0_add q1 q2 m1 m2 m3 m4 m5 m6 ba b0 b1 b2 b3 b4 b5 br mw) {k : Int32 × Int32 × (Nat → Int32)} (ek : k = f_X5_keepAct ma mn now row) :
    RG T r.1 r.2.1 k.1 k.2.1 r.2.2.1 r.2.2.2.1 r.2.2.2.2.1 r.2.2.2.2.2.1 r.2.2.2.2.2.2.1 r.2.2.2.2.2.2.2.1 r.2.2.2.2.2.2.2.2 k.2.2 := by
  obtain ⟨f, g, s, hf, hg, hs, e1, e2, e3, e4, hS⟩ := h
  have hj : (f + s) % 14 < 14 := Nat.mod_lt _ (by decide)
  have hn : (g + s) % 14 < 14 := Nat.mod_lt _ (by decide)
  rw [e1, e2, c_add hf hs m1 m2 m3 m4 m5 m6 ba b0 b1 b2 b3 b4 b5 br mw rfl] at er
  obtain ⟨k1, k2, k3⟩ := m_keep hs hn now row
  rw [← e3, ← e4, ← ek] at k1 k2 k3
  have hB := c_become hT hC (w := br ((f + s) % 14)) rfl
  generalize f_X2_become m1 m2 m3 m4 m5 m6 mw (br ((f + s) % 14)) = r3 at er hB
  have old : ∀ j m, j ≠ (f + s) % 14 → m ≠ (g + s) % 14 → SL T b0 b1 b2 b3 b4 b5 br row j m → SL T r.2.2.1 r.2.2.2.1 r.2.2.2.2.1 r.2.2.2.2.2.1 r.2.2.2.2.2.2.1 r.2.2.2.2.2.2.2.1 r.2.2.2.2.2.2.2.2 k.2.2 j m := fun j m n1 n2 h => by
    rw [er]
    exact h.keep hT (va_up_ne _ _ n1) (va_up_ne _ _ n1) (va_up_ne _ _ n1) (va_up_ne _ _ n1) (va_up_ne _ _ n1) (va_up_ne _ _ n1) (va_up_ne _ _ n1) (fun q hq => by rw [k3, if_neg (by omega)])
  have new : SL T r.2.2.1 r.2.2.2.1 r.2.2.2.2.1 r.2.2.2.2.2.1 r.2.2.2.2.2.2.1 r.2.2.2.2.2.2.2.1 r.2.2.2.2.2.2.2.2 k.2.2 ((f + s) % 14) ((g + s) % 14) := by
    refine ⟨a, hA, hK, ?_, hM.low hT (fun q hq => by rw [k3, if_pos (by omega), Nat.add_sub_cancel_left])⟩
    rw [er]
    dsimp only
    rw [va_up_self, va_up_self, va_up_self, va_up_self, va_up_self, va_up_self, va_up_self]
    exact hB
  by_cases c : s = 14
  · subst c
    refine ⟨(f + 1) % 14, (g + 1) % 14, 14, Nat.mod_lt _ (by decide), Nat.mod_lt _ (by decide), Nat.le_refl _, by rw [er]; exact congrArg nI (if_pos rfl), by rw [er]; exact congrArg nI (if_pos rfl), k1.trans (congrArg nI (if_pos rfl)), ?_, fun i hi => ?_⟩
    · rw [k2]; congr 1; omega
    · rcases Nat.lt_or_eq_of_le (show i ≤ 13 by omega) with w | w
      · have hS := hS (i + 1) (by omega)
        rw [show (f + (i + 1)) % 14 = ((f + 1) % 14 + i) % 14 by omega, show (g + (i + 1)) % 14 = ((g + 1) % 14 + i) % 14 by omega] at hS
        exact old _ _ (by omega) (by omega) hS
      · rw [show ((f + 1) % 14 + i) % 14 = (f + 14) % 14 by omega, show ((g + 1) % 14 + i) % 14 = (g + 14) % 14 by omega]
        exact new
  · refine ⟨f, g, s + 1, hf, hg, by omega, by rw [er]; exact congrArg nI (if_neg c), by rw [er]; exact congrArg nI (if_neg c), k1.trans (congrArg nI (if_neg c)), ?_, fun i hi => ?_⟩
    · rw [k2]; congr 1; omega
    · rcases Nat.lt_or_eq_of_le (show i ≤ s by omega) with w | w
      · exact old _ _ (by omega) (by omega) (hS i w)
      · subst w; exact new
theorem RG.nil {T : TDt} {mn : Int32} {n : Nat} (hn : n < 14) (en : mn = nI n) {b0 b1 b2 b3 b4 b5 : Nat → Int32} {br : Nat → Nat → Int32} {row : Nat → Int32} : RG T 0 0 0 mn b0 b1 b2 b3 b4 b5 br row := ⟨0, n, 0, by decide, hn, by decide, rfl, rfl, rfl, by rw [en]; congr 1; omega, fun i h => absurd h (Nat.not_lt_zero _)⟩
theorem RG.mn {T : TDt} {q1 q2 ma mn : Int32} {b0 b1 b2 b3 b4 b5 : Nat → Int32} {br : Nat → Nat → Int32} {row : Nat → Int32} (h : RG T q1 q2 ma mn b0 b1 b2 b3 b4 b5 br row) : ∃ n, n < 14 ∧ mn = nI n := by
  obtain ⟨f, g, s, hf, hg, hs, e1, e2, e3, e4, hS⟩ := h
  exact ⟨_, Nat.mod_lt _ (by decide), e4⟩
theorem undoL {y : Nat} (hy : y < 14) (now row : Nat → Int32) : ∀ k, k ≤ 16 → ∀ q, l_X5_undo_36 row (nI y) now k q = if q < k then row (16 * y + q) else now q := by
  intro k
  induction k with
  | zero => intro _ q; rw [if_neg (by omega)]; rfl
  | succ k ih =>
    intro hk q
    have ih := ih (by omega)
    rw [l_X5_undo_36]
    unfold b_X5_undo_36
    rw [lxb_y, mA16 (by omega) (show k < 16 by omega), mAk (show k < 16 by omega)]
    by_cases c : q = k
    · subst c
      rw [upd_s, if_pos (by omega)]
    · rw [upd_n c, ih q]
      by_cases d : q < k
      · rw [if_pos d, if_pos (by omega)]
      · rw [if_neg d, if_neg (by omega)]
/-- how the concert stands: class and model -/
def NW (T : TDt) (pl pd nx tk ht tm : Int32) (wi now : Nat → Int32) : Prop := ∃ a, AW T a ∧ AK T a ∧ CM T a pl pd nx tk ht tm wi ∧ MR T 0 a now ∧ 0 ≤ now 28
theorem NW.ms {T : TDt} (hT : TW T) {pl pd nx tk ht tm : Int32} {wi now now' : Nat → Int32} (h : NW T pl pd nx tk ht tm wi now) (hS : MS now now') : NW T pl pd nx tk ht tm wi now' := by
  obtain ⟨a, h1, h2, h3, h4, h5⟩ := h
  exact ⟨a, h1, h2, h3, h4.low hT hS.1, hS.2⟩
theorem e_undo {T : TDt} (hT : TW T) {q1 q2 ma mn : Int32} {b0 b1 b2 b3 b4 b5 : Nat → Int32} {br : Nat → Nat → Int32} {row : Nat → Int32} (h : RG T q1 q2 ma mn b0 b1 b2 b3 b4 b5 br row) {pl pd nx tk ht tm : Int32} {wi now : Nat → Int32} (hN : NW T pl pd nx tk ht tm wi now) (ba : Nat → Nat) {rc : Int32 × Int32 × Int32 × Int32 × Int32 × Int32 × Int32 × Int32 × (Nat → Int32)} {rm : Int32 × Int32 × Int32 × (Nat → Int32)} (ec : rc = f_X4_undo q1 q2 pl pd nx tk ht tm ba b0 b1 b2 b3 b4 b5 br wi) (em : rm = f_X5_undo ma mn row now) :
    rc.1 = rm.1 ∧ RG T q1 rc.2.1 rm.2.1 rm.2.2.1 b0 b1 b2 b3 b4 b5 br row ∧ NW T rc.2.2.1 rc.2.2.2.1 rc.2.2.2.2.1 rc.2.2.2.2.2.1 rc.2.2.2.2.2.2.1 rc.2.2.2.2.2.2.2.1 rc.2.2.2.2.2.2.2.2 rm.2.2.2 := by
  subst ec em
  obtain ⟨f, g, s, hf, hg, hs, e1, e2, e3, e4, hS⟩ := h
  obtain ⟨a0, n1, n2, n3, n4, n5⟩ := hN
  unfold f_X4_undo f_X5_undo f_X0_takeLast
  by_cases c : s = 0
  · rw [if_pos (show ma = 0 by rw [e3, c]; rfl), if_pos (show q2 ≤ 0 by rw [e2, c]; decide), lxb_y, if_pos (show (0 : Int32) = 0 from rfl)]
    exact ⟨rfl, ⟨f, g, s, hf, hg, hs, e1, e2, e3, e4, hS⟩, ⟨a0, n1, n2, n3, n4, n5⟩⟩
  · obtain ⟨s, rfl⟩ : ∃ t, s = t + 1 := ⟨s - 1, by omega⟩
    have hj : (f + s) % 14 < 14 := Nat.mod_lt _ (by decide)
    have ec : ((q1 + q2) - 1) - ((q1 + q2) - 1) / 14 * 14 = nI ((f + s) % 14) := by
      rw [e1, e2, nI_add, show f + (s + 1) = (f + s) + 1 from rfl, nI_p]
      exact nx_irem rfl (show (14 : Int32) = nI 14 from rfl) (by omega) (by omega) (by omega)
    have em : (mn + 13) - (mn + 13) / 14 * 14 = nI ((g + s) % 14) := by
      rw [nx_irem (x := mn + 13) (y := 14) (nx_add e4 (show (13 : Int32) = nI 13 from rfl)) (show (14 : Int32) = nI 14 from rfl) (by omega) (by omega) (by omega)]
      congr 1; omega
    simp only [lxb_y]
    rw [if_neg (show ¬ ma = 0 by rw [e3]; exact nI_ne0 (by omega) (by omega)), if_neg (show ¬ q2 ≤ 0 by rw [e2]; exact nI_nle (by omega) (by omega)), ec, em, mom_at (by decide) hj, if_neg (show ¬ some (ba ((f + s) % 14)) = none from fun q => by cases q), nI_clamp (show (f + s) % 14 < 2 ^ 31 by omega), show itn 0 16 = 16 by decide +kernel]
    rw [if_neg (show ¬ (1 : Int32) = 0 by decide), e2, e3, nI_p]
    obtain ⟨a, h1, h2, h3, h4⟩ := hS s (by omega)
    refine ⟨rfl, ⟨f, g, s, hf, hg, by omega, e1, rfl, rfl, rfl, fun i hi => hS i (by omega)⟩, ⟨a, h1, h2, c_become hT h3 rfl, h4.low hT (fun q hq => ?_), ?_⟩⟩
    · exact (undoL (Nat.mod_lt _ (by decide)) now row 16 (Nat.le_refl _) q).trans (if_pos hq)
    · show 0 ≤ l_X5_undo_36 row (nI ((g + s) % 14)) now 16 28
      rw [undoL (Nat.mod_lt _ (by decide)) now row 16 (Nat.le_refl _) 28, if_neg (by omega)]
      exact n5
