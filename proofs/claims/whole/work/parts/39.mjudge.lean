/-! things tried: both sides -/
theorem c_do {T : TDt} (hT : TW T) {a : AS} (hA : AW T a) {players bars pl pd nx tk ht tm : Int32} {pr wd kd lk no rp wi : Nat → Int32} (hc : CT T players bars pr wd kd lk no rp) (hC : CM T a pl pd nx tk ht tm wi) {f : Nat} (hf : f < 1000) {r : Int32 × Int32 × Int32 × Int32 × Int32 × Int32 × Int32 × (Nat → Int32)} (er : r = f_X2_doIfItCanBe (nI f) pl pd nx tk ht tm players bars no kd wi lk rp pr wd) :
    (aOk T a (f / 100) (f / 10 % 10) (f % 10) = true → r.1 = 1 ∧ CM T (aDo T a (f / 100) (f % 10)) r.2.1 r.2.2.1 r.2.2.2.1 r.2.2.2.2.1 r.2.2.2.2.2.1 r.2.2.2.2.2.2.1 r.2.2.2.2.2.2.2) ∧ (¬ aOk T a (f / 100) (f / 10 % 10) (f % 10) = true → r.1 = 0) := by
  subst er
  have h6 := hT.1
  have h9 := hA.2.2
  have e1 : nI f / 100 = nI (f / 100) := nx_div rfl (show (100 : Int32) = nI 100 from rfl) (by omega) (by omega) (by omega)
  have e2 : nI f / 10 = nI (f / 10) := nx_div rfl (show (10 : Int32) = nI 10 from rfl) (by omega) (by omega) (by omega)
  have e3 : nI (f / 10) - nI (f / 10) / 10 * 10 = nI (f / 10 % 10) := nx_rem rfl (show (10 : Int32) = nI 10 from rfl) (by omega) (by omega) (by omega)
  have e4 : nI f - nI f / 10 * 10 = nI (f % 10) := nx_rem rfl (show (10 : Int32) = nI 10 from rfl) (by omega) (by omega) (by omega)
  have e5 : nI f - nI f / 100 * 100 = nI (f % 100) := nx_rem rfl (show (100 : Int32) = nI 100 from rfl) (by omega) (by omega) (by omega)
  have e6 : f % 100 = 10 * (f / 10 % 10) + f % 10 := by omega
  dsimp only [f_X2_doIfItCanBe, lxb]
  rw [e5, e4, e2, e3, e1, e6]
  have hh : f / 100 < 10 := by omega
  have hx : f / 10 % 10 < 10 := by omega
  have hy : f % 10 < 10 := by omega
  generalize f / 100 = h at hh ⊢
  generalize f / 10 % 10 = x at hx ⊢
  generalize f % 10 = y at hy ⊢
  have is : ∀ k : Nat, k < 10 → ∀ n : Nat, n < 10 → (nI n = nI k ↔ n = k) := fun k hk n hn => nI_eq (by omega) (by omega)
  have eh5 : nI h = (5 : Int32) ↔ h = 5 := is 5 (by omega) h hh
  have eh0 : nI h = (0 : Int32) ↔ h = 0 := is 0 (by omega) h hh
  have eh1 : nI h = (1 : Int32) ↔ h = 1 := is 1 (by omega) h hh
  have eh2 : nI h = (2 : Int32) ↔ h = 2 := is 2 (by omega) h hh
  have eh3 : nI h = (3 : Int32) ↔ h = 3 := is 3 (by omega) h hh
  have eh4 : nI h = (4 : Int32) ↔ h = 4 := is 4 (by omega) h hh
  have ex0 : nI x = (0 : Int32) ↔ x = 0 := is 0 (by omega) x hx
  have ey0 : nI y = (0 : Int32) ↔ y = 0 := is 0 (by omega) y hy
  by_cases c5 : h = 5
  · rw [if_pos (eh5.mpr c5), hC.2.2.2.2.1]
    subst c5
    by_cases d : 10 * x + y ≤ a.2.2.2.2.1
    · rw [if_neg (nI_nlt d (by omega))]
      exact ⟨fun _ => ⟨rfl, by rw [← hC.2.2.2.2.1]; exact hC⟩, fun q => by simp [aOk, d] at q⟩
    · rw [if_pos (nI_lt (by omega) (by omega))]
      exact ⟨fun q => by simp [aOk, d] at q, fun _ => rfl⟩
  · rw [if_neg (fun q => c5 (eh5.mp q))]
    by_cases cx : x = 0
    · rw [if_pos (ex0.mpr cx)]
      subst cx
      by_cases c0 : h = 0
      · rw [if_pos (eh0.mpr c0)]
        subst c0
        by_cases cy : y = 0
        · rw [if_pos (ey0.mpr cy)]
          subst cy
          obtain ⟨b1, b2⟩ := c_bar hT hA hc hC rfl
          rw [b1]
          by_cases d : aSilent T a = true
          · rw [if_pos d, if_pos rfl]
            exact ⟨fun q => by simp [aOk, d] at q, fun _ => rfl⟩
          · rw [if_neg d, if_neg (show ¬ (1 : Int32) = 0 by decide)]
            exact ⟨fun _ => ⟨rfl, b2⟩, fun q => by simp [aOk, d] at q⟩
        · rw [if_neg (fun q => cy (ey0.mp q))]
          exact ⟨fun q => by simp [aOk, cy] at q, fun _ => rfl⟩
      · rw [if_neg (fun q => c0 (eh0.mp q))]
        by_cases c1 : h = 1
        · rw [if_pos (eh1.mpr c1)]
          subst c1
          obtain ⟨g1, g2⟩ := c_give hA hC (n := y) (by omega) rfl
          by_cases d : 1 ≤ y
          · exact ⟨fun _ => g1 ⟨d, by omega⟩, fun q => by simp [aOk, d] at q⟩
          · refine ⟨fun q => by simp [aOk, d] at q, fun _ => ?_⟩
            show (f_X2_takeGift (nI y) ht).1 = 0
            rw [g2 (fun q => d q.1)]
        · rw [if_neg (fun q => c1 (eh1.mp q))]
          by_cases c2 : h = 2
          · rw [if_pos (eh2.mpr c2)]
            subst c2
            obtain ⟨g1, g2⟩ := c_pay hT hA hc hC (p := y) (by omega) rfl
            refine ⟨fun q => ?_, fun q => ?_⟩
            · simp [aOk] at q; exact g1 q
            · simp [aOk] at q
              show (f_X2_payFromHat (nI y) pl pd ht players pr).1 = 0
              rw [g2 (by simpa using q)]
          · rw [if_neg (fun q => c2 (eh2.mp q))]
            by_cases c3 : h = 3
            · rw [if_pos (eh3.mpr c3)]
              subst c3
              obtain ⟨g1, g2⟩ := c_rest hT hA hc hC (p := y) (by omega) rfl
              refine ⟨fun q => ?_, fun q => ?_⟩
              · simp [aOk] at q; exact g1 q
              · simp [aOk] at q
                show (f_X2_restPlayer (nI y) pl pd players wd wi).1 = 0
                rw [g2 (by simpa using q)]
            · rw [if_neg (fun q => c3 (eh3.mp q))]
              by_cases c4 : h = 4
              · rw [if_pos (eh4.mpr c4), hc.1, hasP (by omega) (by omega)]
                subst c4
                by_cases d : y < tnp T
                · rw [if_pos d, if_neg (show ¬ (1 : Int32) = 0 by decide), hC.1.1.play (show y < 6 by omega)]
                  by_cases d2 : a.1 y = 0
                  · rw [if_pos (show y < tnp T ∧ a.1 y = 0 from ⟨d, d2⟩), if_neg (show ¬ (1 : Int32) = 0 by decide)]
                    exact ⟨fun _ => ⟨rfl, hC⟩, fun q => by simp [aOk, d, d2] at q⟩
                  · rw [if_neg (show ¬ (y < tnp T ∧ a.1 y = 0) from fun q => d2 q.2), if_pos rfl]
                    exact ⟨fun q => by simp [aOk, d2] at q, fun _ => rfl⟩
                · rw [if_neg d, if_pos rfl]
                  exact ⟨fun q => by simp [aOk, d] at q, fun _ => rfl⟩
              · rw [if_neg (fun q => c4 (eh4.mp q))]
                exact ⟨fun q => by simp [aOk, c0, c1, c2, c3, c4, c5] at q, fun _ => rfl⟩
    · rw [if_neg (fun q => cx (ex0.mp q))]
      refine ⟨fun q => ?_, fun _ => rfl⟩
      unfold aOk at q
      simp only [cx, c5, decide_false, Bool.false_and, if_false, ite_self, Bool.false_eq_true] at q
theorem MR.b28 {T : TDt} (hT : TW T) {a : AS} (hA : AW T a) {v : Nat → Int32} (h : MR T 16 a v) : 0 ≤ v 28 := by
  have h8 := hT.2.1
  have := hA.2.1
  rw [show v 28 = nI a.2.2.1 from h.2.1]
  exact nI_pos' (by omega)
theorem m_try {T : TDt} (hT : TW T) {a : AS} (hA : AW T a) {players bars : Int32} {pr wd kd lk no rp v : Nat → Int32} (hc : CT T players bars pr wd kd lk no rp) (hM : MR T 16 a v) {h x y : Nat} (hh : h < 10) (hx : x < 10) (hy : y < 10) {r : Int32 × (Nat → Int32)} (er : r = f_X5_tryThing (nI h) (nI x) (nI y) players bars v no kd lk rp pr wd) :
    r.1 = (if aOk T a h x y = true then 1 else 0) ∧ (aOk T a h x y = true → MR T 16 (aDo T a h y) r.2) ∧ MY 16 v r.2 ∧ 0 ≤ r.2 28 := by
  subst er
  have h6 := hT.1
  have h9 := hA.2.2
  have is : ∀ k : Nat, k < 10 → ∀ n : Nat, n < 10 → (nI n = nI k ↔ n = k) := fun k hk n hn => nI_eq (by omega) (by omega)
  have eh5 : nI h = (5 : Int32) ↔ h = 5 := is 5 (by omega) h hh
  have eh0 : nI h = (0 : Int32) ↔ h = 0 := is 0 (by omega) h hh
  have eh1 : nI h = (1 : Int32) ↔ h = 1 := is 1 (by omega) h hh
  have eh2 : nI h = (2 : Int32) ↔ h = 2 := is 2 (by omega) h hh
  have eh3 : nI h = (3 : Int32) ↔ h = 3 := is 3 (by omega) h hh
  have eh4 : nI h = (4 : Int32) ↔ h = 4 := is 4 (by omega) h hh
  have ex0 : nI x = (0 : Int32) ↔ x = 0 := is 0 (by omega) x hx
  have ey0 : nI y = (0 : Int32) ↔ y = 0 := is 0 (by omega) y hy
  have h28 := hM.b28 hT hA
  dsimp only [f_X5_tryThing, lxb]
  by_cases c0 : h = 0
  · rw [if_pos (eh0.mpr c0)]
    subst c0
    obtain ⟨_, g2, g3⟩ := m_pass hT (lv := 1) (by decide) hA hc hM rfl
    have g4 := g2.b28 hT (aPass_ok hA)
    by_cases cx : x = 0
    · rw [if_pos (ex0.mpr cx)]
      subst cx
      by_cases cy : y = 0
      · rw [if_pos (ey0.mpr cy)]
        subst cy
        have hs := m_silent hT (lv := 1) (by decide) hA hM
        rw [← hc.1, ← hc.2.1] at hs
        rw [show (1 : Int32) = nI 1 from rfl, hs]
        by_cases d : aSilent T a = true
        · rw [if_pos d, if_neg (show ¬ (1 : Int32) = 0 by decide)]
          exact ⟨by simp [aOk, d], fun _ => g2, g3, g4⟩
        · rw [if_neg d, if_pos rfl]
          exact ⟨by simp [aOk, d], fun _ => g2, g3, g4⟩
      · rw [if_neg (fun q => cy (ey0.mp q))]
        exact ⟨by simp [aOk, cy], fun q => by simp [aOk, cy] at q, g3, g4⟩
    · rw [if_neg (fun q => cx (ex0.mp q))]
      exact ⟨by simp [aOk, cx], fun q => by simp [aOk, cx] at q, g3, g4⟩
  · rw [if_neg (fun q => c0 (eh0.mp q))]
    by_cases c1 : h = 1
    · rw [if_pos (eh1.mpr c1)]
      subst c1
      obtain ⟨g2, g3⟩ := m_give (lv := 1) (by decide) hA hT hM (show y < 100 by omega)
      have g4 := g2.b28 hT (aGive_ok hA y)
      by_cases cx : x = 0
      · rw [if_pos (ex0.mpr cx)]
        subst cx
        by_cases d : 1 ≤ y
        · rw [if_neg (show ¬ nI y ≤ (0 : Int32) from nI_ge (b := y) (a := 0) d (by omega))]
          exact ⟨by simp [aOk, d], fun _ => g2, g3, g4⟩
        · rw [if_pos (show nI y ≤ (0 : Int32) from nI_le (b := 0) (by omega) (by decide))]
          exact ⟨by simp [aOk, d], fun _ => g2, g3, g4⟩
      · rw [if_neg (fun q => cx (ex0.mp q))]
        exact ⟨by simp [aOk, cx], fun _ => g2, g3, g4⟩
    · rw [if_neg (fun q => c1 (eh1.mp q))]
      by_cases c2 : h = 2
      · rw [if_pos (eh2.mpr c2)]
        subst c2
        by_cases cx : x = 0
        · rw [if_pos (ex0.mpr cx)]
          subst cx
          rw [show (1 : Int32) = nI 1 from rfl, m_canPay hT (by decide) hA hc hM hy]
          by_cases d : aCanPay T a y = true
          · obtain ⟨g2, g3⟩ := m_pay hT (lv := 1) (by decide) hc hM d
            rw [if_pos d, if_neg (show ¬ (1 : Int32) = 0 by decide)]
            exact ⟨by simp [aOk, d], fun _ => g2, g3, g2.b28 hT (aPay_ok hA y)⟩
          · rw [if_neg d, if_pos rfl]
            exact ⟨by simp [aOk, d], fun q => by simp [aOk, d] at q, MY.refl, h28⟩
        · rw [if_neg (fun q => cx (ex0.mp q))]
          exact ⟨by simp [aOk, cx], fun q => by simp [aOk, cx] at q, MY.refl, h28⟩
      · rw [if_neg (fun q => c2 (eh2.mp q))]
        by_cases c3 : h = 3
        · rw [if_pos (eh3.mpr c3)]
          subst c3
          by_cases cx : x = 0
          · rw [if_pos (ex0.mpr cx)]
            subst cx
            rw [show (1 : Int32) = nI 1 from rfl, m_canRest hT (by decide) hA hc hM hy]
            by_cases d : aCanRest T a y = true
            · have hp : y < tnp T := by unfold aCanRest at d; simp at d; exact d.1.1
              obtain ⟨g2, g3⟩ := m_rest hT (lv := 1) (by decide) hc hM hp
              rw [if_pos d, if_neg (show ¬ (1 : Int32) = 0 by decide)]
              exact ⟨by simp [aOk, d], fun _ => g2, g3, g2.b28 hT (aRest_ok hT hA hp)⟩
            · rw [if_neg d, if_pos rfl]
              exact ⟨by simp [aOk, d], fun q => by simp [aOk, d] at q, MY.refl, h28⟩
          · rw [if_neg (fun q => cx (ex0.mp q))]
            exact ⟨by simp [aOk, cx], fun q => by simp [aOk, cx] at q, MY.refl, h28⟩
        · rw [if_neg (fun q => c3 (eh3.mp q))]
          by_cases c4 : h = 4
          · rw [if_pos (eh4.mpr c4)]
            subst c4
            by_cases cx : x = 0
            · rw [if_pos (ex0.mpr cx)]
              subst cx
              rw [show (1 : Int32) = nI 1 from rfl, hc.1, m_plays hT (by decide) hM.1 (fun p hp => (hA.1 p hp).1) hy]
              by_cases d : y < tnp T ∧ a.1 y = 0
              · rw [if_pos (show y < tnp T ∧ (a.1, a.2.1).1 y = 0 from d), if_neg (show ¬ (1 : Int32) = 0 by decide)]
                exact ⟨by simp [aOk, d.1, d.2], fun _ => hM, MY.refl, h28⟩
              · rw [if_neg (show ¬ (y < tnp T ∧ (a.1, a.2.1).1 y = 0) from d), if_pos rfl]
                have hn : ¬ aOk T a 4 0 y = true := fun q => by simp [aOk] at q; exact d q
                exact ⟨by rw [if_neg hn], fun q => absurd q hn, MY.refl, h28⟩
            · rw [if_neg (fun q => cx (ex0.mp q))]
              exact ⟨by simp [aOk, cx], fun q => by simp [aOk, cx] at q, MY.refl, h28⟩
          · rw [if_neg (fun q => c4 (eh4.mp q))]
            by_cases c5 : h = 5
            · rw [if_pos (eh5.mpr c5)]
              subst c5
              rw [show Int32.toNatClampNeg 30 = 16 + 14 from rfl, hM.2.2.2.1, show (10 : Int32) = nI 10 from rfl, pk_mul, nI_add]
              by_cases d : 10 * x + y ≤ a.2.2.2.2.1
              · rw [if_neg (nI_nlt d (by omega))]
                exact ⟨by simp [aOk, d], fun _ => hM, MY.refl, h28⟩
              · rw [if_pos (nI_lt (by omega) (by omega))]
                exact ⟨by simp [aOk, d], fun _ => hM, MY.refl, h28⟩
            · rw [if_neg (fun q => c5 (eh5.mp q))]
              have hn : ¬ aOk T a h x y = true := by simp [aOk, c0, c1, c2, c3, c4, c5]
              exact ⟨by rw [if_neg hn], fun q => absurd q hn, MY.refl, h28⟩
