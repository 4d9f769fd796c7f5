/-! the model's lonely basses, drums, whole bar -/
def aLoneK (T : TDt) (st : Nat → Nat) (o : Bool) (k : Nat) : Nat → Nat := fun p => if p < k ∧ st p = 0 ∧ tkd T p = 2 ∧ o = false then 2 else st p
theorem m_lone {T : TDt} (hT : TW T) {kd : Nat → Int32} (hk : ∀ p, p < tnp T → kd p = nI (tkd T p)) {lv : Nat} (hlv : lv < 2) {st wn : Nat → Nat} {v : Nat → Int32} (hM : MP (tnp T) (16 * lv) (st, wn) v) (hs : ∀ p, p < tnp T → st p ≤ 2) (o : Bool) : ∀ k, k ≤ tnp T →
    MP (tnp T) (16 * lv) (aLoneK T st o k, wn) (l_X5_lean_157 (nI lv) kd (if o = true then 1 else 0) v k) ∧ MX (16 * lv) v (l_X5_lean_157 (nI lv) kd (if o = true then 1 else 0) v k)
  | 0, _ => by
    have e : aLoneK T st o 0 = st := by funext p; unfold aLoneK; rw [if_neg (fun q => Nat.not_lt_zero _ q.1)]
    rw [e]; exact ⟨hM, MX.refl⟩
  | k + 1, hk1 => by
    have h6 := hT.1
    have hkn : k < tnp T := by omega
    have h3 := (hT.2.2.1 k hkn).2.2.1
    have h2 := hs k hkn
    obtain ⟨i1, i2⟩ := m_lone hT hk hlv hM hs o k (by omega)
    rw [l_X5_lean_157]
    generalize l_X5_lean_157 (nI lv) kd (if o = true then 1 else 0) v k = u at i1 i2 ⊢
    have e0 : aLoneK T st o k k = st k := by unfold aLoneK; rw [if_neg (fun q => by omega)]
    have e1 : u (16 * lv + k) = nI (st k) := by rw [(i1 k hkn).1]; show nI (aLoneK T st o k k) = _; rw [e0]
    dsimp only [b_X5_lean_157, lxb]
    simp only [mA0 hlv (show k < 16 by omega), mAk (show k < 16 by omega), e1, hk k hkn]
    have same : upd u (16 * lv + k) (nI (st k)) = u := by
      funext q
      by_cases e : q = 16 * lv + k
      · rw [e, upd_s, e1]
      · exact upd_n e
    by_cases c : st k = 0 ∧ tkd T k = 2 ∧ o = false
    · have ez : (if nI (st k) = 0 then if nI (tkd T k) = 2 then if (if o = true then (1 : Int32) else 0) = 0 then (2 : Int32) else nI (st k) else nI (st k) else nI (st k)) = nI 2 := by
        rw [if_pos (show nI (st k) = 0 by rw [c.1]; rfl), if_pos (show nI (tkd T k) = (2 : Int32) by rw [c.2.1]; rfl), c.2.2]; rfl
      rw [ez]
      have ea : aLoneK T st o (k + 1) = va_up (aLoneK T st o k) k 2 := by
        funext p
        simp only [aLoneK, va_up]
        by_cases e : p = k
        · subst e; rw [if_pos rfl, if_pos ⟨by omega, c⟩]
        · rw [if_neg e]
          by_cases d : p < k ∧ st p = 0 ∧ tkd T p = 2 ∧ o = false
          · rw [if_pos d, if_pos ⟨by omega, d.2⟩]
          · rw [if_neg d, if_neg (fun q => d ⟨by omega, q.2⟩)]
      rw [ea]
      exact ⟨i1.st h6 hkn 2, i2.trans (MX.st (by omega))⟩
    · have ez : (if nI (st k) = 0 then if nI (tkd T k) = 2 then if (if o = true then (1 : Int32) else 0) = 0 then (2 : Int32) else nI (st k) else nI (st k) else nI (st k)) = nI (st k) := by
        by_cases c0 : st k = 0
        · by_cases c1 : tkd T k = 2
          · cases o
            · exact absurd ⟨c0, c1, rfl⟩ c
            · simp
          · rw [if_neg (show ¬ nI (tkd T k) = (2 : Int32) from fun q => c1 ((nI_eq (show tkd T k < 2 ^ 31 by omega) (show 2 < 2 ^ 31 by decide)).mp q)), ite_self]
        · rw [if_neg (fun q => c0 ((nI_z (by omega)).mp q))]
      rw [ez, same]
      have ea : aLoneK T st o (k + 1) = aLoneK T st o k := by
        funext p
        simp only [aLoneK]
        by_cases d : p < k ∧ st p = 0 ∧ tkd T p = 2 ∧ o = false
        · rw [if_pos d, if_pos ⟨by omega, d.2⟩]
        · rw [if_neg d, if_neg (fun q => by
            by_cases e : p = k
            · subst e; exact c q.2
            · exact d ⟨by omega, q.2⟩)]
      rw [ea]
      exact ⟨i1, i2⟩
theorem aOther_no {T : TDt} {st : Nat → Nat} : ∀ n, ¬ aOther T st n = true → ∀ p, p < n → st p = 0 → tkd T p = 2
  | 0, _, p, h, _ => absurd h (Nat.not_lt_zero _)
  | n + 1, h, p, hp, hs => by
    simp only [aOther, Bool.or_eq_true, Bool.and_eq_true, decide_eq_true_eq, Bool.not_eq_true', decide_eq_false_iff_not, not_or, not_and, Decidable.not_not] at h
    by_cases e : p = n
    · subst e; exact h.2 hs
    · exact aOther_no n h.1 p (by omega) hs
theorem aLone_K {T : TDt} {st : Nat → Nat} : ∀ p, p < tnp T → aLone T st p = aLoneK T st (aOther T st (tnp T)) (tnp T) p := by
  intro p hp
  unfold aLone aLoneK
  by_cases c : aOther T st (tnp T) = true
  · rw [if_pos c, if_neg (fun q => by rw [c] at q; exact absurd q.2.2.2 (by decide))]
  · rw [if_neg c]
    show (if p < tnp T ∧ st p = 0 then 2 else st p) = _
    by_cases d : p < tnp T ∧ st p = 0
    · rw [if_pos d, if_pos ⟨d.1, d.2, aOther_no _ c p hp d.2, by simpa using c⟩]
    · rw [if_neg d, if_neg (fun q => d ⟨q.1, q.2.1⟩)]
theorem MP.same {n b : Nat} {a a' : AT} {v : Nat → Int32} (h : MP n b a v) (e : ∀ p, p < n → a'.1 p = a.1 p ∧ a'.2 p = a.2 p) : MP n b a' v := fun p hp => by
  rw [(e p hp).1, (e p hp).2]; exact h p hp
theorem m_drum_step {T : TDt} (hT : TW T) {kd lk : Nat → Int32} (hk : ∀ p, p < tnp T → kd p = nI (tkd T p) ∧ lk p = nI (tlk T p)) {lv : Nat} (hlv : lv < 2) {a : AT} {v : Nat → Int32} (hM : MP (tnp T) (16 * lv) a v) (hs : ∀ p, p < tnp T → a.1 p ≤ 2) {k : Nat} (h : k < tnp T) :
    MP (tnp T) (16 * lv) (sDrum T k a) (b_X5_lean_224 (nI lv) (nI (tnp T)) kd lk k v) ∧ MX (16 * lv) v (b_X5_lean_224 (nI lv) (nI (tnp T)) kd lk k v) := by
  have h6 := hT.1
  have h3 := (hT.2.2.1 k h).2.2
  have h2 := hs k h
  dsimp only [b_X5_lean_224, lxb]
  simp only [mA0 hlv (show k < 16 by omega), mA6 hlv (show k < 6 by omega), mAk (show k < 16 by omega), (hM k h).1, (hk k h).1, (hk k h).2, m_plays hT hlv hM hs (show tlk T k < 10 by omega)]
  unfold sDrum
  by_cases c0 : a.1 k = 2
  · rw [if_pos (show nI (a.1 k) = (2 : Int32) by rw [c0]; rfl)]
    by_cases c1 : tkd T k = 3
    · rw [if_pos (show nI (tkd T k) = (3 : Int32) by rw [c1]; rfl)]
      by_cases c2 : tlk T k < tnp T ∧ a.1 (tlk T k) = 0
      · rw [if_pos c2, if_neg (show ¬ (1 : Int32) = 0 by decide), if_pos ⟨c0, c1, c2⟩]
        refine ⟨?_, (MX.st (by omega)).trans (MX.wi (by omega))⟩
        exact (hM.st h6 h 0).wi h6 h 2
      · rw [if_neg c2, if_pos rfl, if_neg (fun q => c2 q.2.2)]
        exact ⟨hM, MX.refl⟩
    · rw [if_neg (show ¬ nI (tkd T k) = (3 : Int32) from fun q => c1 ((nI_eq (show tkd T k < 2 ^ 31 by omega) (show 3 < 2 ^ 31 by decide)).mp q)), if_neg (fun q => c1 q.2.1)]
      exact ⟨hM, MX.refl⟩
  · rw [if_neg (show ¬ nI (a.1 k) = (2 : Int32) from fun q => c0 ((nI_eq (show a.1 k < 2 ^ 31 by omega) (show 2 < 2 ^ 31 by decide)).mp q)), if_neg (fun q => c0 q.1)]
    exact ⟨hM, MX.refl⟩
theorem m_drum {T : TDt} (hT : TW T) {kd lk : Nat → Int32} (hk : ∀ p, p < tnp T → kd p = nI (tkd T p) ∧ lk p = nI (tlk T p)) {lv : Nat} (hlv : lv < 2) {a : AT} {v : Nat → Int32} (hM : MP (tnp T) (16 * lv) a v) (hs : ∀ p, p < tnp T → a.1 p ≤ 2 ∧ a.2 p ≤ 9) : ∀ k, k ≤ tnp T →
    MP (tnp T) (16 * lv) (aDrum T a k) (l_X5_lean_224 (nI lv) (nI (tnp T)) kd lk v k) ∧ MX (16 * lv) v (l_X5_lean_224 (nI lv) (nI (tnp T)) kd lk v k)
  | 0, _ => ⟨hM, MX.refl⟩
  | k + 1, hk1 => by
    obtain ⟨h1, h2⟩ := m_drum hT hk hlv hM hs k (by omega)
    obtain ⟨h3, h4⟩ := m_drum_step hT hk hlv h1 (fun p hp => ((aDrum_ok hs k).1 p hp).1) (show k < tnp T by omega)
    exact ⟨h3, h2.trans h4⟩
theorem m_lean {T : TDt} (hT : TW T) {kd lk : Nat → Int32} (hk : ∀ p, p < tnp T → kd p = nI (tkd T p) ∧ lk p = nI (tlk T p)) {lv : Nat} (hlv : lv < 2) {a : AT} {v : Nat → Int32} (hM : MP (tnp T) (16 * lv) a v) (hs : ∀ p, p < tnp T → a.1 p ≤ 2 ∧ a.2 p ≤ 9) :
    MP (tnp T) (16 * lv) (aDrum T (aLone T (aLean T a.1 (tnp T)), a.2) (tnp T)) (f_X5_lean (nI lv) (nI (tnp T)) v kd lk) ∧ MX (16 * lv) v (f_X5_lean (nI lv) (nI (tnp T)) v kd lk) := by
  have h6 := hT.1
  have hs1 : ∀ p, p < tnp T → a.1 p ≤ 2 := fun p hp => (hs p hp).1
  obtain ⟨l1, l2⟩ := m_lean7 hT hk hlv (st := a.1) (wn := a.2) hM hs1 (tnp T) (Nat.le_refl _)
  obtain ⟨k1, _⟩ := aLean_ok (T := T) hs1 (tnp T)
  have hkd : ∀ p, p < tnp T → kd p = nI (tkd T p) := fun p hp => (hk p hp).1
  have o := m_other hT hkd hlv l1 k1 (tnp T) (Nat.le_refl _)
  obtain ⟨n1, n2⟩ := m_lone hT hkd hlv l1 k1 (aOther T (aLean T a.1 (tnp T)) (tnp T)) (tnp T) (Nat.le_refl _)
  obtain ⟨q1, _⟩ := aLone_ok (T := T) k1
  have n3 := n1.same (a' := (aLone T (aLean T a.1 (tnp T)), a.2)) (fun p hp => ⟨aLone_K p hp, rfl⟩)
  obtain ⟨d1, d2⟩ := m_drum hT hk hlv n3 (fun p hp => ⟨q1 p hp, (hs p hp).2⟩) (tnp T) (Nat.le_refl _)
  dsimp only [f_X5_lean, lxb]
  rw [itn0 (by omega), o]
  exact ⟨d1, l2.trans (n2.trans d2)⟩
/-- a whole moment in the model's cells from b on -/
def MR (T : TDt) (b : Nat) (a : AS) (v : Nat → Int32) : Prop := MP (tnp T) b (a.1, a.2.1) v ∧ v (b + 12) = nI a.2.2.1 ∧ v (b + 13) = a.2.2.2.1 ∧ v (b + 14) = nI a.2.2.2.2.1 ∧ v (b + 15) = a.2.2.2.2.2
def MY (b : Nat) (v v' : Nat → Int32) : Prop := ∀ q, q < b ∨ b + 16 ≤ q → v' q = v q
theorem MY.refl {b : Nat} {v : Nat → Int32} : MY b v v := fun _ _ => rfl
theorem MY.trans {b : Nat} {u v w : Nat → Int32} (h : MY b u v) (h2 : MY b v w) : MY b u w := fun q hq => (h2 q hq).trans (h q hq)
theorem MX.y {b : Nat} {u v : Nat → Int32} (h : MX b u v) : MY b u v := fun q hq => h q (by omega)
theorem MY.up {b k : Nat} {v : Nat → Int32} {x : Int32} (hk : k < 16) : MY b v (upd v (b + k) x) := fun q hq => upd_n (by omega)
/-- the players whose status is s, as a mask -/
def aWho (st : Nat → Nat) (s : Nat) : Nat → Nat
  | 0 => 0
  | k + 1 => aWho st s k + if st k = s then 2 ^ k else 0
theorem aWho_lt (st : Nat → Nat) (s : Nat) : ∀ k, aWho st s k < 2 ^ k
  | 0 => Nat.one_pos
  | k + 1 => by
    have := aWho_lt st s k
    unfold aWho
    rw [Nat.pow_succ]
    split <;> omega
theorem aWho_bit (st : Nat → Nat) (s : Nat) : ∀ k p, (aWho st s k).testBit p = decide (p < k ∧ st p = s)
  | 0, p => by simp [aWho]
  | k + 1, p => by
    have h1 := aWho_lt st s k
    have ih := aWho_bit st s k p
    unfold aWho
    by_cases c : st k = s
    · rw [if_pos c, Nat.add_comm]
      rcases Nat.lt_trichotomy p k with w | w | w
      · rw [Nat.testBit_two_pow_add_gt w, ih]
        have : p < k + 1 := by omega
        simp [w, this]
      · subst w
        rw [Nat.testBit_two_pow_add_eq, ih]
        simp [c]
      · rw [Nat.testBit_lt_two_pow (Nat.lt_of_lt_of_le (show 2 ^ k + aWho st s k < 2 ^ (k + 1) by rw [Nat.pow_succ]; omega) (Nat.pow_le_pow_right (by omega) w))]
        have : ¬ p < k + 1 := by omega
        simp [this]
    · rw [if_neg c, Nat.add_zero, ih]
      by_cases e : p = k
      · subst e; simp [c]
      · have : (p < k + 1) ↔ p < k := by omega
        simp [this]
