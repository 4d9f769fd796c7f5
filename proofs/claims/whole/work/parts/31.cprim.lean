/-! the class's players, bar by bar, against the abstract ones -/
def CP (n : Nat) (a : AT) (pl : Int32) (wi : Nat → Int32) : Prop := BP n a.1 0 pl ∧ ∀ p, p < n → wi p = nI (a.2 p)
theorem tb_wind : ∀ w, w < 10 → ∀ z, z < 3 → (if 0 < nI w - nI z then nI w - nI z else 0) = nI (w - z) := by decide +kernel
theorem nI_z {n : Nat} (h : n < 2 ^ 31) : nI n = 0 ↔ n = 0 := ⟨fun q => (nI_eq h (by decide)).mp q, fun q => by rw [q]; rfl⟩
theorem wi_up {n : Nat} {wi : Nat → Int32} {wn : Nat → Nat} (h : ∀ p, p < n → wi p = nI (wn p)) (k w : Nat) : ∀ p, p < n → upd wi k (nI w) p = nI (va_up wn k w p) := fun p hp => by
  by_cases e : p = k
  · subst e; rw [upd_s, va_up_self]
  · rw [upd_n e, va_up_ne _ _ e]; exact h p hp
theorem less_c {T : TDt} (hT : TW T) {kinds : Nat → Int32} (hk : ∀ p, p < tnp T → kinds p = nI (tkd T p)) {k : Nat} (h : k < tnp T) (loud : Bool) : (if (if loud = true then (1 : Int32) else 0) = 0 then (1 : Int32) else if f_X4_at (nI k) 6 kinds = 2 then 2 else 1) = nI (if loud = true ∧ tkd T k = 2 then 2 else 1) := by
  have h6 := hT.1
  rw [at_in (show k < 6 by omega) (by decide), hk k h]
  have h3 := (hT.2.2.1 k h).2.2.1
  cases loud
  · simp; rfl
  · by_cases c : tkd T k = 2
    · rw [if_neg (by simp), if_pos (by rw [c]; rfl), if_pos ⟨rfl, c⟩]; rfl
    · rw [if_neg (by simp), if_neg (show ¬ nI (tkd T k) = (2 : Int32) from fun q => c ((nI_eq (show tkd T k < 2 ^ 31 by omega) (show 2 < 2 ^ 31 by decide)).mp q)), if_neg (fun q => c q.2)]; rfl
theorem c_blow_step {T : TDt} (hT : TW T) {kinds : Nat → Int32} (hk : ∀ p, p < tnp T → kinds p = nI (tkd T p)) (loud : Bool) {a : AT} {v : Int32 × (Nat → Int32)} (hC : CP (tnp T) a v.1 v.2) (hw : ∀ p, p < tnp T → a.2 p ≤ 9) {k : Nat} (h : k < tnp T) :
    CP (tnp T) (sBlow T loud k a) (b_X2_spendWind_23 kinds (if loud = true then 1 else 0) k v).1 (b_X2_spendWind_23 kinds (if loud = true then 1 else 0) k v).2 := by
  have h6 := hT.1
  dsimp only [b_X2_spendWind_23, lxb, f_X2_windOf]
  rw [hC.1.play (show k < 6 by omega), less_c hT hk h loud]
  unfold sBlow
  have hl : (if loud = true ∧ tkd T k = 2 then 2 else 1) < 3 := by split <;> omega
  generalize (if loud = true ∧ tkd T k = 2 then 2 else 1) = z at hl ⊢
  by_cases c : a.1 k = 0
  · rw [if_pos c, if_pos (show k < tnp T ∧ a.1 k = 0 from ⟨h, c⟩), if_neg (show ¬ (1 : Int32) = 0 by decide)]
    rw [at_in (show k < 6 by omega) (by decide), hC.2 k h]
    have h9 := hw k h
    rw [tb_wind _ (by omega) z hl]
    rw [put_in (show k < 6 by omega) (by decide)]
    by_cases d : a.2 k - z = 0
    · rw [if_pos ((nI_z (by omega)).mpr d), if_pos d]
      refine ⟨?_, wi_up hC.2 k _⟩
      have := hC.1.tire (show k < 6 by omega)
      rw [if_pos c] at this
      exact this
    · rw [if_neg (fun q => d ((nI_z (by omega)).mp q)), if_neg d]
      exact ⟨hC.1, wi_up hC.2 k _⟩
  · rw [if_neg c, if_neg (show ¬ (k < tnp T ∧ a.1 k = 0) from fun q => c q.2), if_pos rfl]
    exact hC
/-- winds stay small, and who is paid stays so -/
theorem sBlow_ok {T : TDt} (loud : Bool) {a : AT} {n : Nat} (h : ∀ p, p < n → a.1 p ≤ 2 ∧ a.2 p ≤ 9) (k : Nat) : (∀ p, p < n → (sBlow T loud k a).1 p ≤ 2 ∧ (sBlow T loud k a).2 p ≤ 9) ∧ ∀ p, (sBlow T loud k a).1 p = 1 ↔ a.1 p = 1 := by
  unfold sBlow
  generalize (if loud = true ∧ tkd T k = 2 then 2 else 1) = z
  by_cases c : a.1 k = 0
  · rw [if_pos c]
    refine ⟨fun p hp => ⟨?_, ?_⟩, fun p => ?_⟩
    · show (if a.2 k - z = 0 then va_up a.1 k 2 else a.1) p ≤ 2
      have := (h p hp).1
      split
      · unfold va_up; split <;> omega
      · exact this
    · show va_up a.2 k (a.2 k - z) p ≤ 9
      have := (h p hp).2
      unfold va_up
      split
      · rename_i e; subst e; omega
      · exact this
    · show (if a.2 k - z = 0 then va_up a.1 k 2 else a.1) p = 1 ↔ _
      split
      · unfold va_up
        split
        · rename_i e; subst e; rw [c]; simp
        · rfl
      · rfl
  · rw [if_neg c]
    exact ⟨h, fun _ => Iff.rfl⟩
theorem aBlow_ok {T : TDt} (loud : Bool) {a : AT} {n : Nat} (h : ∀ p, p < n → a.1 p ≤ 2 ∧ a.2 p ≤ 9) : ∀ k, (∀ p, p < n → (aBlow T loud a k).1 p ≤ 2 ∧ (aBlow T loud a k).2 p ≤ 9) ∧ ∀ p, (aBlow T loud a k).1 p = 1 ↔ a.1 p = 1
  | 0 => ⟨h, fun _ => Iff.rfl⟩
  | k + 1 => by
    obtain ⟨h1, h2⟩ := aBlow_ok loud h k
    obtain ⟨h3, h4⟩ := sBlow_ok (T := T) loud h1 k
    exact ⟨h3, fun p => (h4 p).trans (h2 p)⟩
theorem c_blow {T : TDt} (hT : TW T) {kinds : Nat → Int32} (hk : ∀ p, p < tnp T → kinds p = nI (tkd T p)) (loud : Bool) {a : AT} {v : Int32 × (Nat → Int32)} (hC : CP (tnp T) a v.1 v.2) (h : ∀ p, p < tnp T → a.1 p ≤ 2 ∧ a.2 p ≤ 9) : ∀ k, k ≤ tnp T →
    CP (tnp T) (aBlow T loud a k) (l_X2_spendWind_23 kinds (if loud = true then 1 else 0) v k).1 (l_X2_spendWind_23 kinds (if loud = true then 1 else 0) v k).2
  | 0, _ => hC
  | k + 1, hk1 => c_blow_step hT hk loud (c_blow hT hk loud hC h k (by omega)) (fun p hp => ((aBlow_ok loud h k).1 p hp).2) (by omega)
theorem c_spend {T : TDt} (hT : TW T) {pl nx : Int32} {no kd wi : Nat → Int32} {a : AS} (hk : ∀ p, p < tnp T → kd p = nI (tkd T p)) (hno : ∀ b, b < tnb T → no b = nI (tno T b)) (hnx : nx = nI a.2.2.1) (hb : a.2.2.1 < tnb T) (hC : CP (tnp T) (a.1, a.2.1) pl wi) (h : ∀ p, p < tnp T → a.1 p ≤ 2 ∧ a.2.1 p ≤ 9) :
    CP (tnp T) (aBlow T (decide (5 ≤ tno T a.2.2.1)) (a.1, a.2.1) (tnp T)) (f_X2_spendWind pl nx (nI (tnp T)) no kd wi).1 (f_X2_spendWind pl nx (nI (tnp T)) no kd wi).2 := by
  have h6 := hT.1
  have h8 := hT.2.1
  have h9 := (hT.2.2.2 _ hb).1
  dsimp only [f_X2_spendWind, lxb]
  rw [hnx, at_in (show a.2.2.1 < 8 by omega) (by decide), hno _ hb, itn0 (by omega)]
  have e : (if nI (tno T a.2.2.1) < 5 then (0 : Int32) else 1) = if decide (5 ≤ tno T a.2.2.1) = true then 1 else 0 := by
    by_cases c : 5 ≤ tno T a.2.2.1
    · rw [if_neg (show ¬ nI (tno T a.2.2.1) < (5 : Int32) from nI_nlt (a := tno T a.2.2.1) (b := 5) c (by omega)), if_pos (by simpa using c)]
    · rw [if_pos (show nI (tno T a.2.2.1) < (5 : Int32) from nI_lt (b := 5) (by omega) (by decide)), if_neg (by simpa using c)]
  rw [e]
  exact c_blow hT hk _ (v := (pl, wi)) hC h _ (Nat.le_refl _)
