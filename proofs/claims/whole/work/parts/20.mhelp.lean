/-! rows for the model: answers with a fact beside them, loops with an invariant -/
abbrev hgQiE (D : va_G) (r : Int32) (w1 : va_W) (E : Prop) (A : Nat → Prop) := va_Qi (fun (x : Int32) (_ : Unit) => x = r ∧ E) (fun _ t => va_P D vwCl w1 t.heap ∧ va_D A w1) A
abbrev hgQvE (D : va_G) (w1 : va_W) (E : Prop) (A : Nat → Prop) := va_Qv (fun (_ : Unit) => E) (fun _ t => va_P D vwCl w1 t.heap ∧ va_D A w1) A
section HGE
variable {p : Program} {l : Launch} {e : Env} {R : Room} {s : State} {m : MethodId} {args : Array Value} {below : List Frame} {meth : Method} {c : Code} {H : Heap} {locs : List Loc} {cells slots : Nat} {Q : State → Prop}
variable {cc : ByteArray} {pc : Nat} {ls : Array Slot} {rest st0 : List Value} {D : va_G} {A0 : Nat → Prop} {H0 : Heap} {a : Array Value} {ws wc wr w1 wf : va_W} {E : Prop} {nL : Nat}
theorem hg_riE {r v : Int32} (hx : p.tables.exec = Jvm.exec) (hb : c.code = cc) (hr : meth.sig.returnType = some .int) (hlk : meth.locks = false) (hv : v = r) (hE : E) (hP : va_P D vwCl w1 H) (hD : va_D A0 w1) (hS : va_S A0 s.heap H locs) (hdg : decode cc pc = .ok (.ireturn, 1)) : W p l e R s m args below meth c H locs cells slots (MQ below (hgQiE D r w1 E A0) args s cells slots A0) (F0 m pc ls [.int v]) :=
  W.iret hx hb hr (fun t ht _ => ⟨⟨v, (), rfl, ⟨hv, hE⟩, by rw [ht]; exact hP, hD⟩, hS.F ht⟩) hS.2.2 hdg hlk
theorem hg_rzE {r v : Int32} (hx : p.tables.exec = Jvm.exec) (hb : c.code = cc) (hr : meth.sig.returnType = some .boolean) (hlk : meth.locks = false) (hn : narrow .boolean (.int v) = .int v) (hv : v = r) (hE : E) (hP : va_P D vwCl w1 H) (hD : va_D A0 w1) (hS : va_S A0 s.heap H locs) (hdg : decode cc pc = .ok (.ireturn, 1)) : W p l e R s m args below meth c H locs cells slots (MQ below (hgQiE D r w1 E A0) args s cells slots A0) (F0 m pc ls [.int v]) :=
  W.zret hx hb hr hn (fun t ht _ => ⟨⟨v, (), rfl, ⟨hv, hE⟩, by rw [ht]; exact hP, hD⟩, hS.F ht⟩) hS.2.2 hdg hlk
theorem hg_rvE (hx : p.tables.exec = Jvm.exec) (hb : c.code = cc) (hr : meth.sig.returnType = none) (hlk : meth.locks = false) (hE : E) (hP : va_P D vwCl w1 H) (hD : va_D A0 w1) (hS : va_S A0 s.heap H locs) (hdg : decode cc pc = .ok (.return_, 1)) : W p l e R s m args below meth c H locs cells slots (MQ below (hgQvE D w1 E A0) args s cells slots A0) (F0 m pc ls []) :=
  W.vret hx hb hr (fun t ht _ => ⟨⟨(), rfl, hE, by rw [ht]; exact hP, hD⟩, hS.F ht⟩) hS.2.2 hdg hlk
theorem hg_ciE {r : Int32} (hr : va_Run p l e R s m args below meth c H locs cells slots 0 0 (F0 m pc ls st0) rest (hgQiE D r w1 E (va_A wc H.size) a) (va_A wc H.size)) (hP : va_P D vwCl ws H) (hD : va_D A0 ws) (hS : va_S A0 H0 H locs) (hA : ∀ q, H0.size ≤ q → A0 q) (isC isR isO : List Nat) (hC : isC.map (fun i => ws[i]?) = wc.map some) (hR : isR.map (fun i => ws[i]?) = wr.map some) (hn : va_nd isR = true) (hdis : ∀ i ∈ isR, i ∉ isC) (hO : isO.map (fun i => (wr ++ w1)[i]?) = wf.map some) (hno : va_nd isO = true)
    (kk : E → ∀ (H1 : Heap) (locs1 : List Loc), va_P D vwCl wf H1 → va_D A0 wf → va_S A0 H0 H1 locs1 → W p l e R s m args below meth c H1 locs1 cells slots Q (F0 m (pc + 3) ls (.int r :: rest))) : W p l e R s m args below meth c H locs cells slots Q (F0 m pc ls st0) := by
  have hF := va_free hD hS hA isC hC
  refine va_calli hr hS (fun q _ h => hF q h) hF (fun x u t H1 locs1 ht hvm hw hB hz hk hS1 => ?_)
  obtain ⟨hw, hE⟩ := hw
  subst hw
  obtain ⟨hP1, hD1⟩ := hB
  rw [ht] at hP1
  obtain ⟨hP2, hD2⟩ := va_join hP hD isC isR hC hR hn hdis hk hF hP1 hD1
  exact kk hE H1 locs1 (hg_subP hP2 isO hO) (hD2.sub isO hno hO) hS1
theorem hg_cvE (hr : va_Run p l e R s m args below meth c H locs cells slots 0 0 (F0 m pc ls st0) rest (hgQvE D w1 E (va_A wc H.size) a) (va_A wc H.size)) (hP : va_P D vwCl ws H) (hD : va_D A0 ws) (hS : va_S A0 H0 H locs) (hA : ∀ q, H0.size ≤ q → A0 q) (isC isR isO : List Nat) (hC : isC.map (fun i => ws[i]?) = wc.map some) (hR : isR.map (fun i => ws[i]?) = wr.map some) (hn : va_nd isR = true) (hdis : ∀ i ∈ isR, i ∉ isC) (hO : isO.map (fun i => (wr ++ w1)[i]?) = wf.map some) (hno : va_nd isO = true)
    (kk : E → ∀ (H1 : Heap) (locs1 : List Loc), va_P D vwCl wf H1 → va_D A0 wf → va_S A0 H0 H1 locs1 → W p l e R s m args below meth c H1 locs1 cells slots Q (F0 m (pc + 3) ls rest)) : W p l e R s m args below meth c H locs cells slots Q (F0 m pc ls st0) := by
  have hF := va_free hD hS hA isC hC
  refine va_callv hr hS (fun q _ h => hF q h) hF (fun u t H1 locs1 ht hvm hw hB hz hk hS1 => ?_)
  obtain ⟨hP1, hD1⟩ := hB
  rw [ht] at hP1
  obtain ⟨hP2, hD2⟩ := va_join hP hD isC isR hC hR hn hdis hk hF hP1 hD1
  exact kk hw H1 locs1 (hg_subP hP2 isO hO) (hD2.sub isO hno hO) hS1
theorem hg_loopFJ {T : Type} {N : Nat} (J : T → Prop) (I : T → va_W) (lv : Nat → T → List (Nat × Value)) (f : Nat → T) (hJ0 : J (f 0))
    (hz : ∀ v, J v → v = f N → ∀ (H : Heap) (locs : List Loc) (ls : Array Slot), va_P D vwCl (I v) H → va_D A0 (I v) → va_S A0 H0 H locs → lv_has ls nL (lv N v) → W p l e R s m args below meth c H locs cells slots Q (F0 m pc ls rest))
    (hs : ∀ k, k < N → ∀ v, J v → v = f k → ∀ w, w = f (k + 1) → (J w → ∀ (H : Heap) (locs : List Loc) (ls : Array Slot), va_P D vwCl (I w) H → va_D A0 (I w) → va_S A0 H0 H locs → lv_has ls nL (lv (k + 1) w) → W p l e R s m args below meth c H locs cells slots Q (F0 m pc ls rest)) → ∀ (H : Heap) (locs : List Loc) (ls : Array Slot), va_P D vwCl (I v) H → va_D A0 (I v) → va_S A0 H0 H locs → lv_has ls nL (lv k v) → W p l e R s m args below meth c H locs cells slots Q (F0 m pc ls rest))
    (hP : va_P D vwCl (I (f 0)) H) (hD : va_D A0 (I (f 0))) (hS : va_S A0 H0 H locs) (hl : lv_has ls nL (lv 0 (f 0))) : W p l e R s m args below meth c H locs cells slots Q (F0 m pc ls rest) := by
  have K : ∀ (n k : Nat), k + n = N → J (f k) → ∀ (H : Heap) (locs : List Loc) (ls : Array Slot), va_P D vwCl (I (f k)) H → va_D A0 (I (f k)) → va_S A0 H0 H locs → lv_has ls nL (lv k (f k)) → W p l e R s m args below meth c H locs cells slots Q (F0 m pc ls rest) := by
    intro n
    induction n with
    | zero =>
      intro k hk hJ
      obtain rfl : k = N := hk
      exact hz _ hJ rfl
    | succ n ih =>
      intro k hk hJ
      exact hs k (by omega) _ hJ rfl _ rfl (ih (k + 1) (by omega))
  exact K N 0 (by omega) hJ0 _ _ _ hP hD hS hl
theorem hg_loopSJ {T U : Type} {N : Nat} {u : U} (J : T → Prop) (I : T → va_W) (lv : Nat → T → List (Nat × Value)) (g : Nat → Nat → T → U) (v0 : T) (hJ0 : J v0) (hu : u = g N 0 v0)
    (hz : ∀ v, J v → u = g 0 N v → ∀ (H : Heap) (locs : List Loc) (ls : Array Slot), va_P D vwCl (I v) H → va_D A0 (I v) → va_S A0 H0 H locs → lv_has ls nL (lv N v) → W p l e R s m args below meth c H locs cells slots Q (F0 m pc ls rest))
    (hs : ∀ n k, k + n + 1 = N → ∀ v, J v → u = g (n + 1) k v → (∀ v', J v' → u = g n (k + 1) v' → ∀ (H : Heap) (locs : List Loc) (ls : Array Slot), va_P D vwCl (I v') H → va_D A0 (I v') → va_S A0 H0 H locs → lv_has ls nL (lv (k + 1) v') → W p l e R s m args below meth c H locs cells slots Q (F0 m pc ls rest)) → ∀ (H : Heap) (locs : List Loc) (ls : Array Slot), va_P D vwCl (I v) H → va_D A0 (I v) → va_S A0 H0 H locs → lv_has ls nL (lv k v) → W p l e R s m args below meth c H locs cells slots Q (F0 m pc ls rest))
    (hP : va_P D vwCl (I v0) H) (hD : va_D A0 (I v0)) (hS : va_S A0 H0 H locs) (hl : lv_has ls nL (lv 0 v0)) : W p l e R s m args below meth c H locs cells slots Q (F0 m pc ls rest) := by
  have K : ∀ (n k : Nat), k + n = N → ∀ v, J v → u = g n k v → ∀ (H : Heap) (locs : List Loc) (ls : Array Slot), va_P D vwCl (I v) H → va_D A0 (I v) → va_S A0 H0 H locs → lv_has ls nL (lv k v) → W p l e R s m args below meth c H locs cells slots Q (F0 m pc ls rest) := by
    intro n
    induction n with
    | zero =>
      intro k hk
      obtain rfl : k = N := hk
      exact hz
    | succ n ih =>
      intro k hk v hJ hv
      exact hs n k (by omega) v hJ hv (ih (k + 1) (by omega))
  exact K N 0 (by omega) v0 hJ0 hu _ _ _ hP hD hS hl
theorem hg_loopMJ {T U : Type} {N : Nat} {u : U} (J : T → Prop) (μ : T → Nat) (I : T → va_W) (lv : Nat → T → List (Nat × Value)) (g : Nat → T → U) (v0 : T) (hJ0 : J v0) (h0 : μ v0 < N) (hu : u = g N v0)
    (hs : ∀ n v, J v → μ v < n + 1 → u = g (n + 1) v → (∀ v', J v' → μ v' < n → u = g n v' → ∀ (H : Heap) (locs : List Loc) (ls : Array Slot), va_P D vwCl (I v') H → va_D A0 (I v') → va_S A0 H0 H locs → lv_has ls nL (lv 0 v') → W p l e R s m args below meth c H locs cells slots Q (F0 m pc ls rest)) → ∀ (H : Heap) (locs : List Loc) (ls : Array Slot), va_P D vwCl (I v) H → va_D A0 (I v) → va_S A0 H0 H locs → lv_has ls nL (lv 0 v) → W p l e R s m args below meth c H locs cells slots Q (F0 m pc ls rest))
    (hP : va_P D vwCl (I v0) H) (hD : va_D A0 (I v0)) (hS : va_S A0 H0 H locs) (hl : lv_has ls nL (lv 0 v0)) : W p l e R s m args below meth c H locs cells slots Q (F0 m pc ls rest) := by
  have K : ∀ (n : Nat) v, J v → μ v < n → u = g n v → ∀ (H : Heap) (locs : List Loc) (ls : Array Slot), va_P D vwCl (I v) H → va_D A0 (I v) → va_S A0 H0 H locs → lv_has ls nL (lv 0 v) → W p l e R s m args below meth c H locs cells slots Q (F0 m pc ls rest) := by
    intro n
    induction n with
    | zero => intro v _ hv; exact absurd hv (Nat.not_lt_zero _)
    | succ n ih =>
      intro v hJ hv hg
      exact hs n v hJ hv hg (fun v' h0 h1 h2 => ih v' h0 h1 h2)
  exact K N v0 hJ0 h0 hu _ _ _ hP hD hS hl
end HGE
/-- the bar that comes, at both levels of the model's row, is no number below 0 -/
def mB (f : Nat → Int32) : Prop := 0 ≤ f 12 ∧ 0 ≤ f 28
theorem mB_upd {f : Nat → Int32} {i : Int32} {n : Nat} {x : Int32} (hB : mB f) (e : i = nI n) (hn : n < 1000) (h : (n = 12 ∨ n = 28) → 0 ≤ x) : mB (upd f (Int32.toNatClampNeg i) x) := by
  rw [e, nI_clamp (by omega)]
  refine ⟨?_, ?_⟩
  · rcases Nat.decEq 12 n with q | q
    · rw [pk_un q]; exact hB.1
    · rw [← q, pk_us]; exact h (Or.inl q.symm)
  · rcases Nat.decEq 28 n with q | q
    · rw [pk_un q]; exact hB.2
    · rw [← q, pk_us]; exact h (Or.inr q.symm)
theorem hg_nz {x : Int32} (h : x = 0 ∨ x = 1) : narrow .boolean (.int x) = .int x := by
  rcases h with rfl | rfl <;> decide
theorem hg_ltN {x : Int32} {n N : Nat} (e : x = nI n) (h : n ≤ N) (c : ¬ x = nI N) : n < N := by
  rcases Nat.lt_or_ge n N with q | q
  · exact q
  · exact absurd (by rw [e, Nat.le_antisymm h q]) c
theorem hg_nltN {x y : Int32} {a b : Nat} (ex : x = nI a) (ey : y = nI b) (ha : a < 2 ^ 31) (hb : b < 2 ^ 31) (c : ¬ y ≤ x) : a < b := by
  rcases Nat.lt_or_ge a b with q | q
  · exact q
  · exact absurd (by rw [ex, ey]; exact nI_le q ha) c
theorem mNat {x : Int32} {N : Nat} (h1 : 0 ≤ x.toInt) (h2 : x.toInt < N) (hN : N < 2 ^ 31) : ∃ j, j < N ∧ x = nI j := vp_in_of (vp_in_iff.mpr ⟨h1, h2⟩) hN
theorem mPos {x : Int32} (h : 0 ≤ x.toInt) : ∃ a, a < 2147483648 ∧ x = nI a := by
  have h2 := Int32.toInt_lt x
  refine ⟨x.toInt.toNat, by omega, ?_⟩
  apply Int32.toInt_inj.mp
  rw [nI_toInt (by omega)]
  omega
theorem nx_div {x y : Int32} {a b : Nat} (hx : x = nI a) (hy : y = nI b) (ha : a < 2 ^ 31) (h0 : 0 < b) (hb : b < 2 ^ 31) : x / y = nI (a / b) := nx_idiv hx hy ha h0 hb
theorem nx_rem {x y : Int32} {a b : Nat} (hx : x = nI a) (hy : y = nI b) (ha : a < 2 ^ 31) (h0 : 0 < b) (hb : b < 2 ^ 31) : x - x / y * y = nI (a % b) := nx_irem hx hy ha h0 hb
