/-! the model's players, bar by bar, against the abstract ones -/
def MP (n b : Nat) (a : AT) (v : Nat → Int32) : Prop := ∀ p, p < n → v (b + p) = nI (a.1 p) ∧ v (b + 6 + p) = nI (a.2 p)
def MX (b : Nat) (v v' : Nat → Int32) : Prop := ∀ q, q < b ∨ b + 12 ≤ q → v' q = v q
theorem MX.refl {b : Nat} {v : Nat → Int32} : MX b v v := fun _ _ => rfl
theorem MX.trans {b : Nat} {u v w : Nat → Int32} (h : MX b u v) (h2 : MX b v w) : MX b u w := fun q hq => (h2 q hq).trans (h q hq)
theorem mA0 {lv k : Nat} (hlv : lv < 2) (hk : k < 16) : Int32.toNatClampNeg ((16 * nI lv) + nI k) = 16 * lv + k := by
  rw [show (16 : Int32) = nI 16 from rfl, pk_mul, nI_add, nI_clamp (by omega)]
theorem mA6 {lv k : Nat} (hlv : lv < 2) (hk : k < 6) : Int32.toNatClampNeg (((16 * nI lv) + 6) + nI k) = 16 * lv + 6 + k := by
  rw [show (16 : Int32) = nI 16 from rfl, show (6 : Int32) = nI 6 from rfl, pk_mul, nI_add, nI_add, nI_clamp (by omega)]
theorem mA12 {lv : Nat} (hlv : lv < 2) : Int32.toNatClampNeg ((16 * nI lv) + 12) = 16 * lv + 12 := mA0 (k := 12) hlv (by omega)
theorem mA13 {lv : Nat} (hlv : lv < 2) : Int32.toNatClampNeg ((16 * nI lv) + 13) = 16 * lv + 13 := mA0 (k := 13) hlv (by omega)
theorem mA14 {lv : Nat} (hlv : lv < 2) : Int32.toNatClampNeg ((16 * nI lv) + 14) = 16 * lv + 14 := mA0 (k := 14) hlv (by omega)
theorem mA15 {lv : Nat} (hlv : lv < 2) : Int32.toNatClampNeg ((16 * nI lv) + 15) = 16 * lv + 15 := mA0 (k := 15) hlv (by omega)
theorem mAk {k : Nat} (hk : k < 16) : Int32.toNatClampNeg (nI k) = k := nI_clamp (by omega)
theorem MP.st {n b : Nat} {a : AT} {v : Nat → Int32} (h : MP n b a v) (hn : n ≤ 6) {k : Nat} (hk : k < n) (s : Nat) : MP n b (va_up a.1 k s, a.2) (upd v (b + k) (nI s)) := fun p hp => by
  constructor
  · show upd v (b + k) (nI s) (b + p) = nI (va_up a.1 k s p)
    by_cases e : p = k
    · subst e; rw [upd_s, va_up_self]
    · rw [upd_n (by omega), va_up_ne _ _ e]; exact (h p hp).1
  · rw [upd_n (by omega)]; exact (h p hp).2
theorem MP.wi {n b : Nat} {a : AT} {v : Nat → Int32} (h : MP n b a v) (hn : n ≤ 6) {k : Nat} (hk : k < n) (s : Nat) : MP n b (a.1, va_up a.2 k s) (upd v (b + 6 + k) (nI s)) := fun p hp => by
  constructor
  · rw [upd_n (by omega)]; exact (h p hp).1
  · show upd v (b + 6 + k) (nI s) (b + 6 + p) = nI (va_up a.2 k s p)
    by_cases e : p = k
    · subst e; rw [upd_s, va_up_self]
    · rw [upd_n (by omega), va_up_ne _ _ e]; exact (h p hp).2
theorem MX.st {b k : Nat} {v : Nat → Int32} {x : Int32} (hk : k < 6) : MX b v (upd v (b + k) x) := fun q hq => upd_n (by omega)
theorem MX.wi {b k : Nat} {v : Nat → Int32} {x : Int32} (hk : k < 6) : MX b v (upd v (b + 6 + k) x) := fun q hq => upd_n (by omega)
theorem m_less {T : TDt} {k m : Nat} (hm : m ≤ 9) (h3 : tkd T k ≤ 3) : (if nI (tkd T k) = 2 then (if nI m < 5 then (1 : Int32) else 2) else 1) = nI (if decide (5 ≤ m) = true ∧ tkd T k = 2 then 2 else 1) := by
  by_cases c : tkd T k = 2
  · rw [if_pos (by rw [c]; rfl)]
    by_cases d : 5 ≤ m
    · rw [if_neg (show ¬ nI m < (5 : Int32) from nI_nlt (b := 5) d (by omega)), if_pos ⟨decide_eq_true d, c⟩]; rfl
    · rw [if_pos (show nI m < (5 : Int32) from nI_lt (b := 5) (by omega) (by decide)), if_neg (fun q => d (of_decide_eq_true q.1))]; rfl
  · rw [if_neg (show ¬ nI (tkd T k) = (2 : Int32) from fun q => c ((nI_eq (show tkd T k < 2 ^ 31 by omega) (show 2 < 2 ^ 31 by decide)).mp q)), if_neg (fun q => c q.2)]; rfl
theorem tb_wind2 : ∀ w, w < 10 → ∀ z, z < 3 → (if nI w ≤ nI z then 0 else nI w - nI z) = nI (w - z) := by decide +kernel
theorem m_blow_step {T : TDt} (hT : TW T) {kd : Nat → Int32} (hk : ∀ p, p < tnp T → kd p = nI (tkd T p)) {lv m : Nat} (hlv : lv < 2) (hm : m ≤ 9) {a : AT} {v : Nat → Int32} (hM : MP (tnp T) (16 * lv) a v) (hw : ∀ p, p < tnp T → a.2 p ≤ 9) (hs : ∀ p, p < tnp T → a.1 p ≤ 2) {k : Nat} (h : k < tnp T) :
    MP (tnp T) (16 * lv) (sBlow T (decide (5 ≤ m)) k a) (b_X5_blow_8 (nI lv) (nI m) kd k v) ∧ MX (16 * lv) v (b_X5_blow_8 (nI lv) (nI m) kd k v) := by
  have h6 := hT.1
  have h3 := (hT.2.2.1 k h).2.2.1
  have h9 := hw k h
  have h2 := hs k h
  dsimp only [b_X5_blow_8, lxb]
  simp only [mA0 hlv (show k < 16 by omega), mA6 hlv (show k < 6 by omega), mAk (show k < 16 by omega), (hM k h).1, (hM k h).2, hk k h, m_less (T := T) (k := k) hm h3]
  unfold sBlow
  have hl : (if decide (5 ≤ m) = true ∧ tkd T k = 2 then 2 else 1) < 3 := by split <;> omega
  generalize (if decide (5 ≤ m) = true ∧ tkd T k = 2 then 2 else 1) = z at hl ⊢
  rw [tb_wind2 _ (by omega) z hl, upd_s]
  by_cases c : a.1 k = 0
  · rw [if_pos (show nI (a.1 k) = 0 by rw [c]; rfl), if_pos c]
    refine ⟨?_, (MX.wi (by omega)).trans (MX.st (by omega))⟩
    have e := (hM.wi h6 h (a.2 k - z)).st h6 h
    by_cases d : a.2 k - z = 0
    · rw [if_pos ((nI_z (by omega)).mpr d), if_pos d]
      exact e 2
    · rw [if_neg (fun q => d ((nI_z (by omega)).mp q)), if_neg d]
      have e0 := e 0
      rw [show va_up (a.1, va_up a.2 k (a.2 k - z)).1 k 0 = a.1 from by
        funext q
        unfold va_up
        split
        · rename_i w; rw [w, c]
        · rfl] at e0
      exact e0
  · rw [if_neg (fun q => c ((nI_z (by omega)).mp q)), if_neg c]
    exact ⟨hM, MX.refl⟩
theorem m_blow {T : TDt} (hT : TW T) {kd : Nat → Int32} (hk : ∀ p, p < tnp T → kd p = nI (tkd T p)) {lv m : Nat} (hlv : lv < 2) (hm : m ≤ 9) {a : AT} {v : Nat → Int32} (hM : MP (tnp T) (16 * lv) a v) (h : ∀ p, p < tnp T → a.1 p ≤ 2 ∧ a.2 p ≤ 9) : ∀ k, k ≤ tnp T →
    MP (tnp T) (16 * lv) (aBlow T (decide (5 ≤ m)) a k) (l_X5_blow_8 (nI lv) (nI m) kd v k) ∧ MX (16 * lv) v (l_X5_blow_8 (nI lv) (nI m) kd v k)
  | 0, _ => ⟨hM, MX.refl⟩
  | k + 1, hk1 => by
    obtain ⟨h1, h2⟩ := m_blow hT hk hlv hm hM h k (by omega)
    obtain ⟨h3, h4⟩ := m_blow_step hT hk hlv hm h1 (fun p hp => ((aBlow_ok _ h k).1 p hp).2) (fun p hp => ((aBlow_ok _ h k).1 p hp).1) (show k < tnp T by omega)
    exact ⟨h3, h2.trans h4⟩
theorem tb_in5 : ∀ l, l < 10 → ∀ n, n < 7 → f_X5_in (Int32.toInt64 (nI l)) 0 (Int32.toInt64 (nI n - 1)) = if l < n then 1 else 0 := by decide +kernel
theorem m_isP {l n : Nat} (hl : l < 10) (hn : n ≤ 6) : f_X5_isPlayer (nI l) (nI n) = if l < n then 1 else 0 := tb_in5 l hl n (by omega)
theorem m_plays {T : TDt} (hT : TW T) {lv : Nat} (hlv : lv < 2) {a : AT} {v : Nat → Int32} (hM : MP (tnp T) (16 * lv) a v) (hs : ∀ p, p < tnp T → a.1 p ≤ 2) {l : Nat} (hl : l < 10) : f_X5_plays (nI lv) (nI l) (nI (tnp T)) v = if l < tnp T ∧ a.1 l = 0 then 1 else 0 := by
  have h6 := hT.1
  dsimp only [f_X5_plays, lxb]
  rw [m_isP hl h6]
  by_cases c : l < tnp T
  · have := hs l c
    rw [if_pos c, if_neg (show ¬ (1 : Int32) = 0 by decide), mA0 hlv (by omega), (hM l c).1]
    by_cases d : a.1 l = 0
    · rw [if_pos (show nI (a.1 l) = 0 by rw [d]; rfl), if_pos ⟨c, d⟩]
    · rw [if_neg (fun q => d ((nI_z (by omega)).mp q)), if_neg (fun q => d q.2)]
  · rw [if_neg c, if_pos rfl, if_neg (fun q => c q.1)]
theorem m_lean_step {T : TDt} (hT : TW T) {kd lk : Nat → Int32} (hk : ∀ p, p < tnp T → kd p = nI (tkd T p) ∧ lk p = nI (tlk T p)) {lv : Nat} (hlv : lv < 2) {st wn : Nat → Nat} {v : Nat → Int32} (hM : MP (tnp T) (16 * lv) (st, wn) v) (hs : ∀ p, p < tnp T → st p ≤ 2) {k : Nat} (h : k < tnp T) :
    MP (tnp T) (16 * lv) (sLean T k st, wn) (b_X5_lean_7 (nI lv) (nI (tnp T)) kd lk k v) ∧ MX (16 * lv) v (b_X5_lean_7 (nI lv) (nI (tnp T)) kd lk k v) := by
  have h6 := hT.1
  have h3 := (hT.2.2.1 k h).2.2
  have h2 := hs k h
  have e1 : v (16 * lv + k) = nI (st k) := (hM k h).1
  dsimp only [b_X5_lean_7, lxb]
  simp only [mA0 hlv (show k < 16 by omega), mAk (show k < 16 by omega), e1, (hk k h).1, (hk k h).2, m_isP (show tlk T k < 10 by omega) h6, m_plays hT hlv hM hs (show tlk T k < 10 by omega)]
  have same : upd v (16 * lv + k) (nI (st k)) = v := by
    funext q
    by_cases e : q = 16 * lv + k
    · rw [e, upd_s, e1]
    · exact upd_n e
  have go : ∀ z : Int32, z = (if st k = 0 ∧ tkd T k = 1 ∧ tlk T k < tnp T ∧ ¬ st (tlk T k) = 0 then 1 else 0) → MP (tnp T) (16 * lv) (sLean T k st, wn) (upd v (16 * lv + k) (if z = 0 then nI (st k) else 2)) ∧ MX (16 * lv) v (upd v (16 * lv + k) (if z = 0 then nI (st k) else 2)) := by
    intro z ez
    unfold sLean
    by_cases c : st k = 0 ∧ tkd T k = 1 ∧ tlk T k < tnp T ∧ ¬ st (tlk T k) = 0
    · rw [if_pos c] at ez
      rw [if_pos c, ez, if_neg (show ¬ (1 : Int32) = 0 by decide)]
      exact ⟨hM.st h6 h 2, MX.st (by omega)⟩
    · rw [if_neg c] at ez
      rw [if_neg c, ez, if_pos rfl, same]
      exact ⟨hM, MX.refl⟩
  apply go
  by_cases c0 : st k = 0
  · rw [if_pos (show nI (st k) = 0 by rw [c0]; rfl)]
    by_cases c1 : tkd T k = 1
    · rw [if_pos (show nI (tkd T k) = (1 : Int32) by rw [c1]; rfl)]
      by_cases c2 : tlk T k < tnp T
      · rw [if_pos c2, if_neg (show ¬ (1 : Int32) = 0 by decide)]
        by_cases c3 : st (tlk T k) = 0
        · rw [if_pos (show tlk T k < tnp T ∧ st (tlk T k) = 0 from ⟨c2, c3⟩), if_neg (show ¬ (1 : Int32) = 0 by decide), if_neg (fun q => q.2.2.2 c3)]
        · rw [if_neg (show ¬ (tlk T k < tnp T ∧ st (tlk T k) = 0) from fun q => c3 q.2), if_pos rfl, if_pos ⟨c0, c1, c2, c3⟩]
      · rw [if_neg c2, if_pos rfl, if_neg (fun q => c2 q.2.2.1)]
    · rw [if_neg (show ¬ nI (tkd T k) = (1 : Int32) from fun q => c1 ((nI_eq (show tkd T k < 2 ^ 31 by omega) (show 1 < 2 ^ 31 by decide)).mp q)), if_neg (fun q => c1 q.2.1)]
  · rw [if_neg (fun q => c0 ((nI_z (by omega)).mp q)), if_neg (fun q => c0 q.1)]
theorem m_lean7 {T : TDt} (hT : TW T) {kd lk : Nat → Int32} (hk : ∀ p, p < tnp T → kd p = nI (tkd T p) ∧ lk p = nI (tlk T p)) {lv : Nat} (hlv : lv < 2) {st wn : Nat → Nat} {v : Nat → Int32} (hM : MP (tnp T) (16 * lv) (st, wn) v) (hs : ∀ p, p < tnp T → st p ≤ 2) : ∀ k, k ≤ tnp T →
    MP (tnp T) (16 * lv) (aLean T st k, wn) (l_X5_lean_7 (nI lv) (nI (tnp T)) kd lk v k) ∧ MX (16 * lv) v (l_X5_lean_7 (nI lv) (nI (tnp T)) kd lk v k)
  | 0, _ => ⟨hM, MX.refl⟩
  | k + 1, hk1 => by
    obtain ⟨h1, h2⟩ := m_lean7 hT hk hlv hM hs k (by omega)
    obtain ⟨h3, h4⟩ := m_lean_step hT hk hlv h1 (aLean_ok hs k).1 (show k < tnp T by omega)
    exact ⟨h3, h2.trans h4⟩
theorem m_other {T : TDt} (hT : TW T) {kd : Nat → Int32} (hk : ∀ p, p < tnp T → kd p = nI (tkd T p)) {lv : Nat} (hlv : lv < 2) {st wn : Nat → Nat} {v : Nat → Int32} (hM : MP (tnp T) (16 * lv) (st, wn) v) (hs : ∀ p, p < tnp T → st p ≤ 2) : ∀ k, k ≤ tnp T →
    l_X5_lean_106 (nI lv) kd v 0 k = if aOther T st k = true then 1 else 0
  | 0, _ => by simp [l_X5_lean_106, aOther]
  | k + 1, hk1 => by
    have h6 := hT.1
    have h3 := (hT.2.2.1 k (by omega)).2.2.1
    have h2 := hs k (by omega)
    have e1 : v (16 * lv + k) = nI (st k) := (hM k (by omega)).1
    rw [l_X5_lean_106, m_other hT hk hlv hM hs k (by omega)]
    dsimp only [b_X5_lean_106, lxb]
    simp only [mA0 hlv (show k < 16 by omega), mAk (show k < 16 by omega), e1, hk k (show k < tnp T by omega), aOther]
    by_cases c : aOther T st k = true
    · simp [c]
    · rw [if_neg c, if_pos rfl]
      simp only [c, Bool.false_or]
      by_cases c0 : st k = 0
      · rw [if_pos (show nI (st k) = 0 by rw [c0]; rfl)]
        by_cases c1 : tkd T k = 2
        · rw [if_pos (show nI (tkd T k) = (2 : Int32) by rw [c1]; rfl)]; simp [c1]
        · rw [if_neg (show ¬ nI (tkd T k) = (2 : Int32) from fun q => c1 ((nI_eq (show tkd T k < 2 ^ 31 by omega) (show 2 < 2 ^ 31 by decide)).mp q))]; simp [c0, c1]
      · rw [if_neg (fun q => c0 ((nI_z (by omega)).mp q))]; simp [c0]
