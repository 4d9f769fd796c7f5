/-! rows for constructors: new cells, arrays of the known classes -/
abbrev hgQc (D : va_G) (Wf : (Nat → Nat) → va_W) (A : Nat → Prop) := va_Qv (fun (_ : Nat → Nat) => True) (fun ad t => va_P D vwCl (Wf ad) t.heap ∧ va_D A (Wf ad)) A
theorem hgK_I {D : va_G} {cI cZ cM cA : ClassId} {s : State} (hK : va_K D vwCl (hgTy cI cZ cM ++ [(cA, .int)]) s) : cA = cI := by
  have h1 : s.vm.findClass ("[" ++ (FieldType.int).toString) = some cI := (hK.2 0 (cI, .int) rfl).2
  have h2 : s.vm.findClass ("[" ++ (FieldType.int).toString) = some cA := (hK.2 3 (cA, .int) rfl).2
  exact Option.some.inj (h2.symm.trans h1)
theorem hgK_Z {D : va_G} {cI cZ cM cA : ClassId} {s : State} (hK : va_K D vwCl (hgTy cI cZ cM ++ [(cA, .boolean)]) s) : cA = cZ := by
  have h1 : s.vm.findClass ("[" ++ (FieldType.boolean).toString) = some cZ := (hK.2 1 (cZ, .boolean) rfl).2
  have h2 : s.vm.findClass ("[" ++ (FieldType.boolean).toString) = some cA := (hK.2 3 (cA, .boolean) rfl).2
  exact Option.some.inj (h2.symm.trans h1)
theorem hgK_M {D : va_G} {cI cZ cM cA : ClassId} {s : State} (hK : va_K D vwCl (hgTy cI cZ cM ++ [(cA, .object "HatGoesRound$Moment")]) s) : cA = cM := by
  obtain ⟨_, _, _, _, _, h1⟩ := (hK.2 2 (cM, .object "HatGoesRound$Moment") rfl).2
  obtain ⟨_, _, _, _, _, h2⟩ := (hK.2 3 (cA, .object "HatGoesRound$Moment") rfl).2
  exact Option.some.inj (h2.symm.trans h1)
section HGN
variable {p : Program} {l : Launch} {e : Env} {R : Room} {s : State} {m : MethodId} {args : Array Value} {below : List Frame} {meth : Method} {c : Code} {H : Heap} {locs : List Loc} {cells slots : Nat} {Q : State → Prop}
variable {cc : ByteArray} {pc : Nat} {ls : Array Slot} {rest st0 : List Value} {D : va_G} {A0 A : Nat → Prop} {H0 : Heap} {a : Array Value} {ws wc wr w1 wf : va_W} {cI cZ cM : ClassId}
theorem hg_newI (hx : p.tables.exec = Jvm.exec) (hb : c.code = cc) (harr : (Cond.arrayClass .int).before args s = true) (hK : va_K D vwCl (hgTy cI cZ cM) s) (hP : va_P D vwCl ws H) (hD : va_D A ws) (hS : va_S A H0 H locs) (hA : ∀ q, H0.size ≤ q → A q) {n : Int32} (N' : Nat) (hn : ¬ n < 0) (hN : n.toNatClampNeg = N') (hbytes : N' * componentBytes .int ≤ 536870912) (hcells : cells + 1 ≤ R.cells) (hslots : slots + N' ≤ R.slots) (hdg : decode cc pc = .ok (.newarray .int, 2))
    (kk : ∀ (q : Nat) (H1 : Heap), va_P D vwCl (ws ++ [(q, .inl (cI, N', .inl (fun _ => 0)))]) H1 → va_D A (ws ++ [(q, .inl (cI, N', .inl (fun _ => 0)))]) → va_S A H0 H1 locs → W p l e R s m args below meth c H1 locs (cells + 1) (slots + N') Q (F0 m (pc + 2) ls (.ref q :: rest))) : W p l e R s m args below meth c H locs cells slots Q (F0 m pc ls (.int n :: rest)) :=
  va_newa (atype := .int) (ty := .int) hx hb harr rfl hK hP hD hS hA (a0 := (N', .inl (fun _ => 0))) (fun _ => rfl) hn hN hbytes hcells hslots hdg (fun q cA H1 hK1 hP1 hD1 hS1 => by
    obtain rfl := hgK_I hK1
    exact kk q H1 hP1 hD1 hS1)
theorem hg_newZ (hx : p.tables.exec = Jvm.exec) (hb : c.code = cc) (harr : (Cond.arrayClass .boolean).before args s = true) (hK : va_K D vwCl (hgTy cI cZ cM) s) (hP : va_P D vwCl ws H) (hD : va_D A ws) (hS : va_S A H0 H locs) (hA : ∀ q, H0.size ≤ q → A q) {n : Int32} (N' : Nat) (hn : ¬ n < 0) (hN : n.toNatClampNeg = N') (hbytes : N' * componentBytes .boolean ≤ 536870912) (hcells : cells + 1 ≤ R.cells) (hslots : slots + N' ≤ R.slots) (hdg : decode cc pc = .ok (.newarray .boolean, 2))
    (kk : ∀ (q : Nat) (H1 : Heap), va_P D vwCl (ws ++ [(q, .inl (cZ, N', .inl (fun _ => 0)))]) H1 → va_D A (ws ++ [(q, .inl (cZ, N', .inl (fun _ => 0)))]) → va_S A H0 H1 locs → W p l e R s m args below meth c H1 locs (cells + 1) (slots + N') Q (F0 m (pc + 2) ls (.ref q :: rest))) : W p l e R s m args below meth c H locs cells slots Q (F0 m pc ls (.int n :: rest)) :=
  va_newa (atype := .boolean) (ty := .boolean) hx hb harr rfl hK hP hD hS hA (a0 := (N', .inl (fun _ => 0))) (fun _ => rfl) hn hN hbytes hcells hslots hdg (fun q cA H1 hK1 hP1 hD1 hS1 => by
    obtain rfl := hgK_Z hK1
    exact kk q H1 hP1 hD1 hS1)
theorem hg_newM (hx : p.tables.exec = Jvm.exec) (hb : c.code = cc) {own : String} {index : Nat} (hown : s.vm.findClass own = some m.cls) (hcl : (Cond.classLink own index "HatGoesRound$Moment").before args s = true) (hN0 : hgN s) (hK : va_K D vwCl (hgTy cI cZ cM) s) (hP : va_P D vwCl ws H) (hD : va_D A ws) (hS : va_S A H0 H locs) (hA : ∀ q, H0.size ≤ q → A q) {n : Int32} (N' : Nat) (hn : ¬ n < 0) (hN : n.toNatClampNeg = N') (hbytes : N' * 4 ≤ 536870912) (hcells : cells + 1 ≤ R.cells) (hslots : slots + N' ≤ R.slots) (hdg : decode cc pc = .ok (.anewarray index, 3))
    (kk : ∀ (q : Nat) (H1 : Heap), va_P D vwCl (ws ++ [(q, .inl (cM, N', .inr (.inr (.inr (.inr (fun _ => none))))))]) H1 → va_D A (ws ++ [(q, .inl (cM, N', .inr (.inr (.inr (.inr (fun _ => none))))))]) → va_S A H0 H1 locs → W p l e R s m args below meth c H1 locs (cells + 1) (slots + N') Q (F0 m (pc + 3) ls (.ref q :: rest))) : W p l e R s m args below meth c H locs cells slots Q (F0 m pc ls (.int n :: rest)) :=
  va_newq hx hb hown hcl hN0.2.2.2.2.2.2.2 hK hP hD hS hA hn hN hbytes hcells hslots hdg (fun q cA H1 hK1 hP1 hD1 hS1 => by
    obtain rfl := hgK_M hK1
    exact kk q H1 hP1 hD1 hS1)
theorem hg_cvN {mc ms : Nat} {Wf wg : (Nat → Nat) → va_W} (hr : va_Run p l e R s m args below meth c H locs cells slots mc ms (F0 m pc ls st0) rest (hgQc D Wf (va_A wc H.size) a) (va_A wc H.size)) (hP : va_P D vwCl ws H) (hD : va_D A0 ws) (hS : va_S A0 H0 H locs) (hA : ∀ q, H0.size ≤ q → A0 q) (isC isR isO : List Nat) (hC : isC.map (fun i => ws[i]?) = wc.map some) (hR : isR.map (fun i => ws[i]?) = wr.map some) (hn : va_nd isR = true) (hdis : ∀ i ∈ isR, i ∉ isC) (hO : ∀ ad, isO.map (fun i => (wr ++ Wf ad)[i]?) = (wg ad).map some) (hno : va_nd isO = true)
    (kk : ∀ (ad : Nat → Nat) (H1 : Heap) (locs1 : List Loc), va_P D vwCl (wg ad) H1 → va_D A0 (wg ad) → va_S A0 H0 H1 locs1 → W p l e R s m args below meth c H1 locs1 (cells + mc) (slots + ms) Q (F0 m (pc + 3) ls rest)) : W p l e R s m args below meth c H locs cells slots Q (F0 m pc ls st0) := by
  have hF := va_free hD hS hA isC hC
  refine va_callv hr hS (fun q _ h => hF q h) hF (fun ad t H1 locs1 ht hvm hw hB hz hk hS1 => ?_)
  obtain ⟨hP1, hD1⟩ := hB
  rw [ht] at hP1
  obtain ⟨hP2, hD2⟩ := va_join hP hD isC isR hC hR hn hdis hk hF hP1 hD1
  exact kk ad H1 locs1 (hg_subP hP2 isO (hO ad)) (hD2.sub isO hno (hO ad)) hS1
theorem hg_rc {Wf : (Nat → Nat) → va_W} (ad : Nat → Nat) (hx : p.tables.exec = Jvm.exec) (hb : c.code = cc) (hr : meth.sig.returnType = none) (hlk : meth.locks = false) (hP : va_P D vwCl (Wf ad) H) (hD : va_D A0 (Wf ad)) (hS : va_S A0 s.heap H locs) (hdg : decode cc pc = .ok (.return_, 1)) : W p l e R s m args below meth c H locs cells slots (MQ below (hgQc D Wf A0) args s cells slots A0) (F0 m pc ls []) :=
  W.vret hx hb hr (fun t ht _ => ⟨⟨ad, rfl, trivial, by rw [ht]; exact hP, hD⟩, hS.F ht⟩) hS.2.2 hdg hlk
theorem hg_rowQ {k h n : Nat} {f g : Nat → Option Nat} (hk : ws[k]? = some (h, .inl (cM, n, .inr (.inr (.inr (.inr f)))))) (hfg : ∀ j, j < n → f j = g j) (hP : va_P D vwCl ws H) : va_P D vwCl (ws.set k (h, .inl (cM, n, .inr (.inr (.inr (.inr g)))))) H := by
  intro i q hi
  by_cases hik : i = k
  · subst hik
    have hl := (List.getElem?_eq_some_iff.mp hk).1
    rw [List.getElem?_set_self hl] at hi
    cases hi
    have h0 := hP i _ hk
    show H[h]? = some (vp_cell _ _)
    rw [show H[h]? = some (vp_cell cM (n, .inr (.inr (.inr (.inr f))))) from h0, vp_cell_q, vp_cell_q]
    have e : (Array.ofFn (n := n) fun j => va_rf (f j.val)) = Array.ofFn (n := n) fun j => va_rf (g j.val) := congrArg Array.ofFn (funext fun j => by rw [hfg j.val j.isLt])
    show some (arrV cM n _) = some (arrV cM n _)
    unfold arrV
    rw [e]
  · rw [List.getElem?_set_ne (fun q => hik q.symm)] at hi
    exact hP i q hi
end HGN
