/-! the loudest rest -/
def aLoudS (T : TDt) (a : AS) (n k : Nat) (w : Int32 × Int32) : Int32 × Int32 := if k = 6 ∨ aCanRest T a k = true then (if nI (aSum T (if k = 6 then a else aRest T a k) n) ≤ w.2 then w else (nI k, nI (aSum T (if k = 6 then a else aRest T a k) n))) else w
def aLoud (T : TDt) (a : AS) (n : Nat) (w : Int32 × Int32) : Nat → Int32 × Int32
  | 0 => w
  | k + 1 => aLoudS T a n k (aLoud T a n w k)
theorem c_loudS {T : TDt} (hT : TW T) {pc bc pm bm : Int32} {prc wdc kdc lkc noc rpc prm wdm kdm lkm nom rpm : Nat → Int32} (hc : CT T pc bc prc wdc kdc lkc noc rpc) (hm : CT T pm bm prm wdm kdm lkm nom rpm) {a : AS} (hA : AW T a) {pl pd nx tk ht tm : Int32} {wi now : Nat → Int32} (hC : CM T a pl pd nx tk ht tm wi) (hM : MR T 0 a now) (h28 : 0 ≤ now 28) {n : Nat} (hn : n ≤ 12) {k : Nat} (hk : k ≤ 6) (p : Int32 × Int32 × Int32 × Int32 × Int32 × Int32 × Int32 × Int32 × (Nat → Int32)) :
    (b_X4_loud_32 (nI n) pl pd nx tk ht tm wi pc bc noc kdc lkc rpc wdc k p).1 = (aLoudS T a n k (p.1, p.2.1)).1 ∧ (b_X4_loud_32 (nI n) pl pd nx tk ht tm wi pc bc noc kdc lkc rpc wdc k p).2.1 = (aLoudS T a n k (p.1, p.2.1)).2 := by
  have hB := c_become hT hC (w := p.2.2.2.2.2.2.2.2) rfl
  have e6 : nI k = (6 : Int32) ↔ k = 6 := nI_eq (a := k) (b := 6) (by omega) (by decide)
  dsimp only [b_X4_loud_32, lxb]
  unfold aLoudS
  by_cases c : k = 6
  · obtain ⟨g1, _⟩ := c_playNoise hT hA hc hB (n := n) (by omega) rfl
    rw [if_pos (e6.mpr c), if_pos (Or.inl c), if_pos c, g1]
    by_cases d : nI (aSum T a n) ≤ p.2.1
    · rw [if_pos d, if_pos d]; exact ⟨rfl, rfl⟩
    · rw [if_neg d, if_neg d]; exact ⟨rfl, rfl⟩
  · rw [if_neg (fun q => c (e6.mp q)), if_neg c]
    obtain ⟨g1, g2⟩ := c_rest hT hA hc hB (p := k) (by omega) rfl
    by_cases ok : aCanRest T a k = true
    · obtain ⟨g3, g4⟩ := g1 ok
      have hp : k < tnp T := by unfold aCanRest at ok; simp at ok; exact ok.1.1
      obtain ⟨g5, _⟩ := c_playNoise hT (aRest_ok hT hA hp) hc g4 (n := n) (by omega) rfl
      rw [g3, if_neg (show ¬ (1 : Int32) = 0 by decide), if_pos (Or.inr ok), g5]
      by_cases d : nI (aSum T (aRest T a k) n) ≤ p.2.1
      · rw [if_pos d, if_pos d]; exact ⟨rfl, rfl⟩
      · rw [if_neg d, if_neg d]; exact ⟨rfl, rfl⟩
    · have g3 := g2 ok
      rw [g3, if_pos (show (0 : Int32) = 0 from rfl), if_neg (fun q => by rcases q with q | q; exact c q; exact ok q)]
      exact ⟨rfl, rfl⟩
theorem m_loudS {T : TDt} (hT : TW T) {pc bc pm bm : Int32} {prc wdc kdc lkc noc rpc prm wdm kdm lkm nom rpm : Nat → Int32} (hc : CT T pc bc prc wdc kdc lkc noc rpc) (hm : CT T pm bm prm wdm kdm lkm nom rpm) {a : AS} (hA : AW T a) {pl pd nx tk ht tm : Int32} {wi now : Nat → Int32} (hC : CM T a pl pd nx tk ht tm wi) (hM : MR T 0 a now) (h28 : 0 ≤ now 28) {n : Nat} (hn : n ≤ 12) {k : Nat} (hk : k ≤ 6) (p : Int32 × Int32 × (Nat → Int32)) (hS : MS now p.2.2) :
    (b_X5_loud_35 (nI n) pm bm nom kdm lkm rpm wdm k p).1 = (aLoudS T a n k (p.1, p.2.1)).1 ∧ (b_X5_loud_35 (nI n) pm bm nom kdm lkm rpm wdm k p).2.1 = (aLoudS T a n k (p.1, p.2.1)).2 ∧ MS now (b_X5_loud_35 (nI n) pm bm nom kdm lkm rpm wdm k p).2.2 := by
  have hM2 := hM.low hT hS.1
  have e6 : nI k = (6 : Int32) ↔ k = 6 := nI_eq (a := k) (b := 6) (by omega) (by decide)
  have e6' : (6 : Int32) ≤ nI k ↔ 6 ≤ k := nI_leI (a := 6) (b := k) (by decide) (by omega)
  obtain ⟨l1, l2⟩ := m_lay hT hM2
  dsimp only [b_X5_loud_35, lxb]
  unfold aLoudS
  by_cases c : k = 6
  · obtain ⟨g1, g2, g3⟩ := m_go hT hA hm l1 (n := n) (by omega) rfl
    rw [if_pos (e6.mpr c), if_pos (e6'.mpr (by omega)), if_pos (Or.inl c), if_pos c, g1]
    have ms := hS.y (l2.trans g3) (g2.b28 hT (aGo_ok hA n))
    by_cases d : nI (aSum T a n) ≤ p.2.1
    · rw [if_pos d, if_pos d, if_pos d]; exact ⟨rfl, rfl, ms⟩
    · rw [if_neg d, if_neg d, if_neg d]; exact ⟨rfl, rfl, ms⟩
  · rw [if_neg (fun q => c (e6.mp q)), if_neg (show ¬ (6 : Int32) ≤ nI k from fun q => c (by have := e6'.mp q; omega)), if_neg c, show f_X5_canRest 0 (nI k) pm p.2.2 wdm = _ from m_canRest hT (lv := 0) (by decide) hA hm hM2 (show k < 10 by omega)]
    by_cases ok : aCanRest T a k = true
    · have hp : k < tnp T := by unfold aCanRest at ok; simp at ok; exact ok.1.1
      obtain ⟨r1, r2⟩ := m_rest hT (lv := 1) (by decide) hm l1 hp
      obtain ⟨g1, g2, g3⟩ := m_go hT (aRest_ok hT hA hp) hm r1 (n := n) (by omega) rfl
      rw [show nI 1 = (1 : Int32) from rfl] at g1 g2 g3
      have ms := hS.y ((l2.trans r2).trans g3) (g2.b28 hT (aGo_ok (aRest_ok hT hA hp) n))
      rw [if_pos ok, if_neg (show ¬ (1 : Int32) = 0 by decide), if_pos (Or.inr ok), g1]
      by_cases d : nI (aSum T (aRest T a k) n) ≤ p.2.1
      · rw [if_pos d, if_pos d, if_pos d]; exact ⟨rfl, rfl, ms⟩
      · rw [if_neg d, if_neg d, if_neg d]; exact ⟨rfl, rfl, ms⟩
    · rw [if_neg ok, if_pos (show (0 : Int32) = 0 from rfl), if_neg (fun q => by rcases q with q | q; exact c q; exact ok q)]
      exact ⟨rfl, rfl, hS⟩
