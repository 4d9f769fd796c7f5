/-! pays: equal -/
/-- what is heard: whom, at which bar, whether he played -/
def HT (nh : Nat) (hp hb hz : Nat → Nat) (size : Int32) (r1 r2 r3 : Nat → Int32) : Prop := size = nI nh ∧ nh ≤ 6 ∧ ∀ i, i < nh → (r1 i = nI (hp i) ∧ r2 i = nI (hb i) ∧ r3 i = nI (hz i)) ∧ hp i < 6 ∧ hb i ≤ 9 ∧ hz i ≤ 1
def aSay (T : TDt) (hp hz : Nat → Nat) (st : Nat → Nat) (i : Nat) : Prop := hp i < tnp T → (st (hp i) = 0 ↔ hz i = 1)
theorem c_agreeL {T : TDt} (hT : TW T) {nh : Nat} {hp hb hz : Nat → Nat} {size : Int32} {r1 r2 r3 : Nat → Int32} (hH : HT nh hp hb hz size r1 r2 r3) {st : Nat → Nat} {pl players : Int32} (e : players = nI (tnp T)) (hP : BP (tnp T) st 0 pl) {x : Nat} (hx : x ≤ 9) : ∀ n k, k + n = nh →
    (l_X1_agrees_3 (nI x) players pl r1 r2 r3 n k () = 1 ∧ ∀ i, k ≤ i → i < nh → hb i = x → aSay T hp hz st i) ∨ (l_X1_agrees_3 (nI x) players pl r1 r2 r3 n k () = 0 ∧ ¬ ∀ i, k ≤ i → i < nh → hb i = x → aSay T hp hz st i) := by
  intro n
  induction n with
  | zero => intro k hk; exact Or.inl ⟨rfl, fun i h1 h2 => by omega⟩
  | succ n ih =>
    intro k hk
    have h6 := hT.1
    have n6 := hH.2.1
    obtain ⟨⟨d1, d2, d3⟩, d4, d5, d6⟩ := hH.2.2 k (by omega)
    have ih := ih (k + 1) (by omega)
    rw [l_X1_agrees_3]
    dsimp only [lxb]
    rw [at_in (show k < 6 by omega) (by decide), at_in (show k < 6 by omega) (by decide), at_in (show k < 6 by omega) (by decide), d1, d2, d3, e, hasP (by omega) (by omega), hP.play d4]
    rw [e] at ih
    have all : (hb k = x → aSay T hp hz st k) → ((∀ i, k + 1 ≤ i → i < nh → hb i = x → aSay T hp hz st i) ↔ ∀ i, k ≤ i → i < nh → hb i = x → aSay T hp hz st i) := fun h => ⟨fun g i h1 h2 => by
      rcases Nat.lt_or_eq_of_le h1 with w | w
      · exact g i w h2
      · subst w; exact h, fun g i h1 h2 => g i (by omega) h2⟩
    by_cases c1 : hb k = x
    · rw [if_pos (show nI (hb k) = nI x by rw [c1])]
      by_cases c2 : hp k < tnp T
      · rw [if_pos c2, if_neg (show ¬ (1 : Int32) = 0 by decide)]
        have ez : (if nI (hz k) = 1 then (1 : Int32) else 0) = if hz k = 1 then 1 else 0 := by
          by_cases c : hz k = 1
          · rw [if_pos (show nI (hz k) = (1 : Int32) by rw [c]; rfl), if_pos c]
          · rw [if_neg (show ¬ nI (hz k) = (1 : Int32) from fun q => c ((nI_eq (show hz k < 2 ^ 31 by omega) (show 1 < 2 ^ 31 by decide)).mp q)), if_neg c]
        rw [ez]
        by_cases c3 : st (hp k) = 0
        · rw [if_pos (show hp k < tnp T ∧ st (hp k) = 0 from ⟨c2, c3⟩)]
          by_cases c4 : hz k = 1
          · rw [if_pos c4, if_pos (show (1 : Int32) = 1 from rfl), ← all (fun _ _ => by simp [c3, c4])]; exact ih
          · rw [if_neg c4, if_neg (show ¬ (1 : Int32) = 0 by decide)]
            exact Or.inr ⟨rfl, fun g => c4 ((g k (Nat.le_refl _) (by omega) c1 c2).mp c3)⟩
        · rw [if_neg (show ¬ (hp k < tnp T ∧ st (hp k) = 0) from fun q => c3 q.2)]
          by_cases c4 : hz k = 1
          · rw [if_pos c4, if_neg (show ¬ (0 : Int32) = 1 by decide)]
            exact Or.inr ⟨rfl, fun g => c3 ((g k (Nat.le_refl _) (by omega) c1 c2).mpr c4)⟩
          · rw [if_neg c4, if_pos (show (0 : Int32) = 0 from rfl), ← all (fun _ _ => by simp [c3, c4])]; exact ih
      · rw [if_neg c2, if_pos (show (0 : Int32) = 0 from rfl), ← all (fun _ q => absurd q c2)]; exact ih
    · rw [if_neg (fun q => c1 ((nI_eq (show hb k < 2 ^ 31 by omega) (show x < 2 ^ 31 by omega)).mp q)), ← all (fun q => absurd q c1)]; exact ih
theorem c_explainL {T : TDt} (hT : TW T) {pc bc pm bm : Int32} {prc wdc kdc lkc noc rpc prm wdm kdm lkm nom rpm : Nat → Int32} (hc : CT T pc bc prc wdc kdc lkc noc rpc) (hm : CT T pm bm prm wdm kdm lkm nom rpm) {nh : Nat} {hp hb hz : Nat → Nat} {size : Int32} {r1 r2 r3 : Nat → Int32} (hH : HT nh hp hb hz size r1 r2 r3) {pd ht : Int32} (rr : Int32 × Int32 × Int32 × Int32 × Int32 × Int32 × (Nat → Int32)) (rp : Int32 × Int32) (e2 : rp.2 = pd) (b : AS) (hA : AW T b) : ∀ (n k : Nat) (pl nx tk tm : Int32) (wi : Nat → Int32), k + n = 10 → CM T (aGo T b k) pl pd nx tk ht tm wi →
    ((l_X4_explainsHeard_21 size pc bc r1 r2 r3 noc kdc lkc rpc rr rp n k (pl, nx, tk, tm, wi)).1 = 1 ∧ ∀ i, i < nh → k ≤ hb i → aSay T hp hz (aGo T b (hb i)).1 i) ∨ ((l_X4_explainsHeard_21 size pc bc r1 r2 r3 noc kdc lkc rpc rr rp n k (pl, nx, tk, tm, wi)).1 = 0 ∧ ¬ ∀ i, i < nh → k ≤ hb i → aSay T hp hz (aGo T b (hb i)).1 i) := by
  intro n
  induction n with
  | zero => intro k pl nx tk tm wi hk _; exact Or.inl ⟨rfl, fun i h1 h2 => by have := (hH.2.2 i h1).2.2.1; omega⟩
  | succ n ih =>
    intro k pl nx tk tm wi hk hC
    have h6 := hT.1
    have n6 := hH.2.1
    rw [l_X4_explainsHeard_21]
    dsimp only [lxb]
    have ag := c_agreeL hT hH hc.1 hC.1.1 (x := k) (by omega) nh 0 (by omega)
    have ea : f_X1_agrees (nI k) size pc pl r1 r2 r3 = l_X1_agrees_3 (nI k) pc pl r1 r2 r3 nh 0 () := by
      unfold f_X1_agrees; rw [hH.1, itn0 (by omega)]
    rw [ea]
    rcases ag with ⟨g1, g2⟩ | ⟨g1, g2⟩
    · rw [g1, if_neg (show ¬ (1 : Int32) = 0 by decide), e2]
      have g3 := c_playBars hT (aGo_ok hA k) hc hC (n := 1) (by decide) rfl
      have ih := ih (k + 1) _ _ _ _ _ (by omega) g3
      have all : (∀ i, i < nh → k + 1 ≤ hb i → aSay T hp hz (aGo T b (hb i)).1 i) ↔ ∀ i, i < nh → k ≤ hb i → aSay T hp hz (aGo T b (hb i)).1 i := ⟨fun g i h1 h2 => by
        rcases Nat.lt_or_eq_of_le h2 with w | w
        · exact g i h1 w
        · rw [← w]; exact g2 i (Nat.zero_le _) h1 w.symm, fun g i h1 h2 => g i h1 (by omega)⟩
      rw [← all]
      exact ih
    · rw [g1, if_pos (show (0 : Int32) = 0 from rfl)]
      refine Or.inr ⟨rfl, fun g => g2 fun i _ h2 h3 => ?_⟩
      have := g i h2 (by omega)
      rwa [h3] at this
theorem c_explain {T : TDt} (hT : TW T) {pc bc pm bm : Int32} {prc wdc kdc lkc noc rpc prm wdm kdm lkm nom rpm : Nat → Int32} (hc : CT T pc bc prc wdc kdc lkc noc rpc) (hm : CT T pm bm prm wdm kdm lkm nom rpm) {a : AS} (hA : AW T a) {pl pd nx tk ht tm : Int32} {wi now : Nat → Int32} (hC : CM T a pl pd nx tk ht tm wi) (hM : MR T 0 a now) (h28 : 0 ≤ now 28) {nh : Nat} {hp hb hz : Nat → Nat} {size : Int32} {r1 r2 r3 : Nat → Int32} (hH : HT nh hp hb hz size r1 r2 r3) {k : Nat} (hk : k < 64) (hs : aSub T a k = true) (ww : Nat → Int32) :
    ((f_X4_explainsHeard (nI k) pl pd nx tk ht tm wi ww size pc bc r1 r2 r3 noc kdc lkc rpc).1 = 1 ∧ ∀ i, i < nh → aSay T hp hz (aGo T (aPaySet a k) (hb i)).1 i) ∨ ((f_X4_explainsHeard (nI k) pl pd nx tk ht tm wi ww size pc bc r1 r2 r3 noc kdc lkc rpc).1 = 0 ∧ ¬ ∀ i, i < nh → aSay T hp hz (aGo T (aPaySet a k) (hb i)).1 i) := by
  have hB := c_become hT hC (w := ww) rfl
  have g0 := c_payFreely hB hk (fun p hp q => (aSub_bit hs p hp q).1) rfl
  have g := c_explainL hT hc hm hH (f_X2_become pl pd nx tk ht tm wi ww) (f_X2_payFreely (nI k) (f_X2_become pl pd nx tk ht tm wi ww).1 (f_X2_become pl pd nx tk ht tm wi ww).2.1) rfl (aPaySet a k) (aPaySet_ok hA k) 10 0 _ _ _ _ _ (by omega) g0
  simp only [Nat.zero_le, true_implies] at g
  exact g
