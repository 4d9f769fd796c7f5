/-! pays: equal -/
theorem m_mayL {T : TDt} (hT : TW T) {pc bc pm bm : Int32} {prc wdc kdc lkc noc rpc prm wdm kdm lkm nom rpm : Nat → Int32} (hc : CT T pc bc prc wdc kdc lkc noc rpc) (hm : CT T pm bm prm wdm kdm lkm nom rpm) {a : AS} (hA : AW T a) {pl pd nx tk ht tm : Int32} {wi now : Nat → Int32} (hC : CM T a pl pd nx tk ht tm wi) (hM : MR T 0 a now) (h28 : 0 ≤ now 28) {nh : Nat} {hp hb hz : Nat → Nat} {size : Int32} {r1 r2 r3 : Nat → Int32} (hH : HT nh hp hb hz size r1 r2 r3) {v : Nat → Int32} (hS : MS now v) {s : Nat} (hs : s < 64) : ∀ k, k ≤ nh →
    (((l_X5_mayBePaid_4 (nI s) pm bm r2 nom kdm lkm rpm r1 r3 (1, v) k).1 = 1 ∧ ∀ i, i < k → aSay T hp hz (aGo T (aPaySet a s) (hb i)).1 i) ∨ ((l_X5_mayBePaid_4 (nI s) pm bm r2 nom kdm lkm rpm r1 r3 (1, v) k).1 = 0 ∧ ¬ ∀ i, i < k → aSay T hp hz (aGo T (aPaySet a s) (hb i)).1 i)) ∧ MS now (l_X5_mayBePaid_4 (nI s) pm bm r2 nom kdm lkm rpm r1 r3 (1, v) k).2 := by
  intro k
  induction k with
  | zero => intro _; exact ⟨Or.inl ⟨rfl, fun i h => absurd h (Nat.not_lt_zero _)⟩, hS⟩
  | succ k ih =>
    intro hk
    have h6 := hT.1
    have n6 := hH.2.1
    obtain ⟨⟨d1, d2, d3⟩, d4, d5, d6⟩ := hH.2.2 k (by omega)
    obtain ⟨ih, i2⟩ := ih (by omega)
    rw [l_X5_mayBePaid_4]
    generalize l_X5_mayBePaid_4 (nI s) pm bm r2 nom kdm lkm rpm r1 r3 (1, v) k = p at ih i2 ⊢
    obtain ⟨l1, l2⟩ := m_lay hT (hM.low hT i2.1)
    obtain ⟨s1, s2⟩ := m_some hT l1 (s := s) (z := 1) hs
    rw [← hm.1, show nI 1 = (1 : Int32) from rfl] at s1 s2
    have hA2 : AW T (aPaySet a s) := aPaySet_ok hA s
    obtain ⟨_, g2, g3⟩ := m_go hT hA2 hm s1 (n := hb k) (by omega) rfl
    have hA3 := aGo_ok hA2 (hb k)
    have ms := i2.y ((l2.trans s2).trans g3) (g2.b28 hT hA3)
    have pp := m_plays hT (lv := 1) (by decide) g2.1 (fun p hp => (hA3.1 p hp).1) (l := hp k) (by omega)
    rw [← hm.1] at pp
    dsimp only [b_X5_mayBePaid_4, lxb]
    rw [mAk (show k < 16 by omega), d1, d2, d3, show f_X5_isPlayer (nI (hp k)) pm = if hp k < tnp T then 1 else 0 by rw [hm.1]; exact m_isP (by omega) h6]
    generalize f_X5_goOn (nI (hb k)) pm bm (f_X5_makeSome (nI s) 1 pm (f_X5_layTrial p.2)) nom kdm lkm rpm = r5 at ms pp ⊢
    have pp : f_X5_plays 1 (nI (hp k)) pm r5.2 = if hp k < tnp T ∧ (aGo T (aPaySet a s) (hb k)).1 (hp k) = 0 then 1 else 0 := pp
    rw [pp]
    have all : (aSay T hp hz (aGo T (aPaySet a s) (hb k)).1 k) → ((∀ i, i < k → aSay T hp hz (aGo T (aPaySet a s) (hb i)).1 i) ↔ ∀ i, i < k + 1 → aSay T hp hz (aGo T (aPaySet a s) (hb i)).1 i) := fun h => ⟨fun g i h1 => by
      rcases Nat.lt_or_eq_of_le (show i ≤ k by omega) with w | w
      · exact g i w
      · subst w; exact h, fun g i h1 => g i (by omega)⟩
    rcases ih with ⟨i1, i3⟩ | ⟨i1, i3⟩
    · rw [i1, if_neg (show ¬ (1 : Int32) = 0 by decide)]
      by_cases c2 : hp k < tnp T
      · rw [if_pos c2, if_neg (show ¬ (1 : Int32) = 0 by decide)]
        by_cases c3 : (aGo T (aPaySet a s) (hb k)).1 (hp k) = 0
        · rw [if_pos (show hp k < tnp T ∧ _ from ⟨c2, c3⟩)]
          by_cases c4 : hz k = 1
          · rw [if_pos (show nI (hz k) = (1 : Int32) by rw [c4]; rfl), if_pos (show (1 : Int32) = 1 from rfl)]
            exact ⟨Or.inl ⟨rfl, (all (fun _ => by simp [c3, c4])).mp i3⟩, ms⟩
          · rw [if_neg (show ¬ nI (hz k) = (1 : Int32) from fun q => c4 ((nI_eq (show hz k < 2 ^ 31 by omega) (show 1 < 2 ^ 31 by decide)).mp q)), if_neg (show ¬ (1 : Int32) = 0 by decide)]
            exact ⟨Or.inr ⟨rfl, fun g => c4 ((g k (by omega) c2).mp c3)⟩, ms⟩
        · rw [if_neg (show ¬ (hp k < tnp T ∧ _) from fun q => c3 q.2)]
          by_cases c4 : hz k = 1
          · rw [if_pos (show nI (hz k) = (1 : Int32) by rw [c4]; rfl), if_neg (show ¬ (0 : Int32) = 1 by decide)]
            exact ⟨Or.inr ⟨rfl, fun g => c3 ((g k (by omega) c2).mpr c4)⟩, ms⟩
          · rw [if_neg (show ¬ nI (hz k) = (1 : Int32) from fun q => c4 ((nI_eq (show hz k < 2 ^ 31 by omega) (show 1 < 2 ^ 31 by decide)).mp q)), if_pos (show (0 : Int32) = 0 from rfl)]
            exact ⟨Or.inl ⟨rfl, (all (fun _ => by simp [c3, c4])).mp i3⟩, ms⟩
      · rw [if_neg c2, if_pos (show (0 : Int32) = 0 from rfl)]
        exact ⟨Or.inl ⟨rfl, (all (fun q => absurd q c2)).mp i3⟩, ms⟩
    · rw [i1, if_pos (show (0 : Int32) = 0 from rfl)]
      exact ⟨Or.inr ⟨rfl, fun g => i3 fun i h => g i (by omega)⟩, ms⟩
