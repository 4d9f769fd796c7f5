abbrev vwCl : List vw_C := [(RX0, TX0, 3), (RX1, TX1, 4), (RX2, TX2, 7), (RX3, TX3, 8), (RX4, TX4, 13), (RX5, TX5, 29)]
/-! helper rows: a bundle of what a contract asks and gives, one row for a call, one for an end -/
abbrev hgTy (cI cZ cM : ClassId) : List (ClassId × FieldType) := [(cI, .int), (cZ, .boolean), (cM, .object "HatGoesRound$Moment")]
def hgN (U : State) : Prop := va_Nw (.methodLinkNest RX3 37 yX4_at RX4) U ∧ va_Nw (.methodLinkNest RX3 56 yX4_put RX4) U ∧ va_Nw (.methodLinkNest RX2 47 yX4_at RX4) U ∧ va_Nw (.methodLinkNest RX2 51 yX4_put RX4) U ∧ va_Nw (.methodLinkNest RX0 25 yX4_momentAt RX4) U ∧ va_Nw (.methodLinkNest RX1 25 yX4_put RX4) U ∧ va_Nw (.methodLinkNest RX1 29 yX4_at RX4) U ∧ va_AO "HatGoesRound$Moment" U
theorem hgN.warm {s U : State} (hW : s.WarmedH U.vm) (h : hgN s) : hgN U := ⟨va_Nw.warmM hW h.1, va_Nw.warmM hW h.2.1, va_Nw.warmM hW h.2.2.1, va_Nw.warmM hW h.2.2.2.1, va_Nw.warmM hW h.2.2.2.2.1, va_Nw.warmM hW h.2.2.2.2.2.1, va_Nw.warmM hW h.2.2.2.2.2.2.1, va_AO.moved hW.alike h.2.2.2.2.2.2.2⟩
theorem hgN.same {u U : State} (hvm : u.vm = U.vm) (h : hgN u) : hgN U := ⟨va_Nw.same rfl hvm h.1, va_Nw.same rfl hvm h.2.1, va_Nw.same rfl hvm h.2.2.1, va_Nw.same rfl hvm h.2.2.2.1, va_Nw.same rfl hvm h.2.2.2.2.1, va_Nw.same rfl hvm h.2.2.2.2.2.1, va_Nw.same rfl hvm h.2.2.2.2.2.2.1, va_AO.moved (by rw [hvm]; exact Vm.Alike.refl U.vm) h.2.2.2.2.2.2.2⟩
def hgPre (D : va_G) (cI cZ cM : ClassId) (ws : va_W) (sz : Nat) (U : State) : Prop := U.heap.size = sz ∧ va_P D vwCl ws U.heap ∧ va_K D vwCl (hgTy cI cZ cM) U ∧ va_D (fun _ => True) ws ∧ hgN U
abbrev hgPc (av : List Value) (D : va_G) (cI cZ cM : ClassId) (ws : va_W) (sz : Nat) : Array Value → State → Prop := va_Pc av (hgPre D cI cZ cM ws sz)
theorem hgBlind {av : List Value} {D : va_G} {cI cZ cM : ClassId} {ws : va_W} {sz : Nat} : FrameBlind (hgPc av D cI cZ cM ws sz) := fun a U g mk q =>
  ⟨q.1, q.2.1, q.2.2.1, va_K.moved (u := U) (U := U.calling g mk a) (Vm.Alike.refl U.vm) q.2.2.2.1, q.2.2.2.2.1, hgN.same (u := U) (U := U.calling g mk a) rfl q.2.2.2.2.2⟩
theorem hg_pick {ws wc : va_W} {is : List Nat} (hC : is.map (fun i => ws[i]?) = wc.map some) {k : Nat} {q : Nat × va_E} (h : wc[k]? = some q) : ∃ i, is[k]? = some i ∧ ws[i]? = some q := by
  have h2 : (wc.map some)[k]? = some (some q) := by rw [List.getElem?_map, h]; rfl
  rw [← hC, List.getElem?_map] at h2
  match hk : is[k]?, h2 with
  | some i, h2 => exact ⟨i, rfl, Option.some.inj h2⟩
  | none, h2 => exact absurd h2 (by simp)
theorem hg_subP {D : va_G} {cl : List vw_C} {ws wc : va_W} {H : Heap} (hP : va_P D cl ws H) (is : List Nat) (hC : is.map (fun i => ws[i]?) = wc.map some) : va_P D cl wc H := fun k q hk => by
  obtain ⟨i, -, hi⟩ := hg_pick hC hk
  exact hP i q hi
theorem hgPreS {s : State} {H : Heap} {D : va_G} {cI cZ cM : ClassId} {A : Nat → Prop} {ws wc : va_W} {As : List Value} (hP : va_P D vwCl ws H) (hD : va_D A ws) (hK : va_K D vwCl (hgTy cI cZ cM) s) (hN : hgN s) (is : List Nat) (hn : va_nd is = true) (hC : is.map (fun i => ws[i]?) = wc.map some) : PreS s H (hgPc As D cI cZ cM wc H.size) As :=
  ⟨hgBlind, fun U hU hW => ⟨rfl, by rw [hU], by rw [hU]; exact hg_subP hP is hC, va_K.moved hW.alike hK, (hD.sub is hn hC).weaken (fun _ _ _ _ => trivial), hN.warm hW⟩⟩
theorem hgPreV {s : State} {H : Heap} {D : va_G} {cI cZ cM : ClassId} {A : Nat → Prop} {ws wc : va_W} {As : List Value} {b q0 ci N : Nat} {C : String} {T : u_T} {fs : List Value} (hP : va_P D vwCl ws H) (hD : va_D A ws) (hK : va_K D vwCl (hgTy cI cZ cM) s) (hN : hgN s) (is : List Nat) (hn : va_nd is = true) (hC : is.map (fun i => ws[i]?) = wc.map some) (hc : vwCl[ci]? = some (C, T, N)) (he : ws[q0]? = some (b, .inr (ci, fs))) : PreV s H C b (hgPc (.ref b :: As) D cI cZ cM wc H.size) As :=
  ⟨hgBlind, va_recv hK hP hc he, fun U hU hW => ⟨rfl, by rw [hU], by rw [hU]; exact hg_subP hP is hC, va_K.moved hW.alike hK, (hD.sub is hn hC).weaken (fun _ _ _ _ => trivial), hN.warm hW⟩⟩
/-- what a contract gives, by the kind of its answer: the answer, and the world behind it -/
abbrev hgQi (D : va_G) (r : Int32) (w1 : va_W) (A : Nat → Prop) := va_Qi (fun (x : Int32) (_ : Unit) => x = r) (fun _ t => va_P D vwCl w1 t.heap ∧ va_D A w1) A
abbrev hgQl (D : va_G) (r : Int64) (w1 : va_W) (A : Nat → Prop) := va_Ql (fun (x : Int64) (_ : Unit) => x = r) (fun _ t => va_P D vwCl w1 t.heap ∧ va_D A w1) A
abbrev hgQv (D : va_G) (w1 : va_W) (A : Nat → Prop) := va_Qv (fun (_ : Unit) => True) (fun _ t => va_P D vwCl w1 t.heap ∧ va_D A w1) A
abbrev hgQq (D : va_G) (r : Option Nat) (w1 : va_W) (A : Nat → Prop) := va_Qq (fun (x : Option Nat) (_ : Unit) => x = r) (fun _ t => va_P D vwCl w1 t.heap ∧ va_D A w1) A
theorem hg_ofW {l : Launch} {y : MethodName} {ws ws' : List Cond} {rm : Room} {args : List Value} {D : va_G} {cI cZ cM : ClassId} {ws0 : va_W} {sz mc ms maxL : Nat} {cc : ByteArray} {ret : Option FieldType} {own : String} (Q : (Nat → Prop) → Array Value → State → Outcome → State → Prop) (hcls : y.cls = own)
    (hy : plainName y.cls = true) (hw : ws = Cond.code y cc maxL ret :: ws') (hlen : (lg_sl args).length ≤ maxL)
    (body : ∀ (p : Program) (e : Env) (s : State) (m : MethodId) (below : List Frame) (meth : Method) (c : Code) (ls : Array Slot) (A : Nat → Prop), s.heap.size = sz → p.tables.exec = Jvm.exec → c.code = cc → meth.sig.returnType = ret → c.maxLocals = maxL → s.vm.findClass own = some m.cls → (∀ w ∈ ws, w.before args.toArray s = true) → meth.locks = false → meth.name = y.name → va_K D vwCl (hgTy cI cZ cM) s → hgN s → (∀ q : Nat, s.heap.size ≤ q → A q) → va_P D vwCl ws0 s.heap → va_D A ws0 → va_S A s.heap s.heap [] → lv_has ls maxL (lv_args 0 args) →
      W p l e (headSpec ws rm).room s m args.toArray below meth c s.heap [] 0 0 (MQ below (Q A) args.toArray s mc ms A) (F0 m 0 ls [])) : Met l y ws rm (hgPc args D cI cZ cM ws0 sz) (Q (va_A ws0 sz)) mc ms (va_A ws0 sz) := by
  refine Met.ofW (cc := cc) (maxL := maxL) (ret := ret) hy hw ?_
  intro p e s m args' below meth c s₁ B hml hv
  obtain ⟨rfl, hsz, hP, hK, hD0, hN⟩ := hv
  have hts := atoms_spec (ws := ws) B.pre
  have hown : s.vm.findClass own = some m.cls := by rw [← hcls]; exact findClass_of_methodNamed B.named
  have hD : va_D (va_A ws0 sz) ws0 := hD0.self (sz := sz)
  have hl := lv_entry args (n := maxL) hlen
  rw [lg_entry_eq]
  exact body p e s m below meth c _ (va_A ws0 sz) hsz B.exec B.bytes B.returns hml hown hts B.notSynchronized (name_of_methodNamed B.named B.method).1 hK hN (fun q h => Or.inr (by omega)) hP hD va_S.rf hl
section HGW
variable {p : Program} {l : Launch} {e : Env} {R : Room} {s : State} {m : MethodId} {args : Array Value} {below : List Frame} {meth : Method} {c : Code} {H : Heap} {locs : List Loc} {cells slots : Nat} {Q : State → Prop}
variable {cc : ByteArray} {pc : Nat} {ls : Array Slot} {rest st0 : List Value} {D : va_G} {A0 : Nat → Prop} {H0 : Heap} {a : Array Value} {ws wc wr w1 wf : va_W}
theorem hg_ri {r v : Int32} (hx : p.tables.exec = Jvm.exec) (hb : c.code = cc) (hr : meth.sig.returnType = some .int) (hlk : meth.locks = false) (hv : v = r) (hP : va_P D vwCl w1 H) (hD : va_D A0 w1) (hS : va_S A0 s.heap H locs) (hdg : decode cc pc = .ok (.ireturn, 1)) : W p l e R s m args below meth c H locs cells slots (MQ below (hgQi D r w1 A0) args s cells slots A0) (F0 m pc ls [.int v]) :=
  W.iret hx hb hr (fun t ht _ => ⟨⟨v, (), rfl, hv, by rw [ht]; exact hP, hD⟩, hS.F ht⟩) hS.2.2 hdg hlk
theorem hg_rz {r v : Int32} (hx : p.tables.exec = Jvm.exec) (hb : c.code = cc) (hr : meth.sig.returnType = some .boolean) (hlk : meth.locks = false) (hn : narrow .boolean (.int v) = .int v) (hv : v = r) (hP : va_P D vwCl w1 H) (hD : va_D A0 w1) (hS : va_S A0 s.heap H locs) (hdg : decode cc pc = .ok (.ireturn, 1)) : W p l e R s m args below meth c H locs cells slots (MQ below (hgQi D r w1 A0) args s cells slots A0) (F0 m pc ls [.int v]) :=
  W.zret hx hb hr hn (fun t ht _ => ⟨⟨v, (), rfl, hv, by rw [ht]; exact hP, hD⟩, hS.F ht⟩) hS.2.2 hdg hlk
theorem hg_rl {r v : Int64} (hx : p.tables.exec = Jvm.exec) (hb : c.code = cc) (hr : meth.sig.returnType = some .long) (hlk : meth.locks = false) (hv : v = r) (hP : va_P D vwCl w1 H) (hD : va_D A0 w1) (hS : va_S A0 s.heap H locs) (hdg : decode cc pc = .ok (.lreturn, 1)) : W p l e R s m args below meth c H locs cells slots (MQ below (hgQl D r w1 A0) args s cells slots A0) (F0 m pc ls [.long v]) :=
  W.lret hx hb hr (fun t ht _ => ⟨⟨v, (), rfl, hv, by rw [ht]; exact hP, hD⟩, hS.F ht⟩) hS.2.2 hdg hlk
theorem hg_rv (hx : p.tables.exec = Jvm.exec) (hb : c.code = cc) (hr : meth.sig.returnType = none) (hlk : meth.locks = false) (hP : va_P D vwCl w1 H) (hD : va_D A0 w1) (hS : va_S A0 s.heap H locs) (hdg : decode cc pc = .ok (.return_, 1)) : W p l e R s m args below meth c H locs cells slots (MQ below (hgQv D w1 A0) args s cells slots A0) (F0 m pc ls []) :=
  W.vret hx hb hr (fun t ht _ => ⟨⟨(), rfl, trivial, by rw [ht]; exact hP, hD⟩, hS.F ht⟩) hS.2.2 hdg hlk
theorem hg_rq {r v : Option Nat} {E : String} (hx : p.tables.exec = Jvm.exec) (hb : c.code = cc) (hr : meth.sig.returnType = some (.object E)) (hlk : meth.locks = false) (hv : v = r) (hP : va_P D vwCl w1 H) (hD : va_D A0 w1) (hS : va_S A0 s.heap H locs) (hdg : decode cc pc = .ok (.areturn, 1)) : W p l e R s m args below meth c H locs cells slots (MQ below (hgQq D r w1 A0) args s cells slots A0) (F0 m pc ls [va_rf v]) :=
  W.aret hx hb hr (Or.inl ⟨E, rfl⟩) (va_rf_or v) (fun t ht _ => ⟨⟨v, (), rfl, hv, by rw [ht]; exact hP, hD⟩, hS.F ht⟩) hS.2.2 hdg hlk
theorem hg_ci {r : Int32} (hr : va_Run p l e R s m args below meth c H locs cells slots 0 0 (F0 m pc ls st0) rest (hgQi D r w1 (va_A wc H.size) a) (va_A wc H.size)) (hP : va_P D vwCl ws H) (hD : va_D A0 ws) (hS : va_S A0 H0 H locs) (hA : ∀ q, H0.size ≤ q → A0 q) (isC isR isO : List Nat) (hC : isC.map (fun i => ws[i]?) = wc.map some) (hR : isR.map (fun i => ws[i]?) = wr.map some) (hn : va_nd isR = true) (hdis : ∀ i ∈ isR, i ∉ isC) (hO : isO.map (fun i => (wr ++ w1)[i]?) = wf.map some) (hno : va_nd isO = true)
    (kk : ∀ (H1 : Heap) (locs1 : List Loc), va_P D vwCl wf H1 → va_D A0 wf → va_S A0 H0 H1 locs1 → W p l e R s m args below meth c H1 locs1 cells slots Q (F0 m (pc + 3) ls (.int r :: rest))) : W p l e R s m args below meth c H locs cells slots Q (F0 m pc ls st0) := by
  have hF := va_free hD hS hA isC hC
  refine va_calli hr hS (fun q _ h => hF q h) hF (fun x u t H1 locs1 ht hvm hw hB hz hk hS1 => ?_)
  subst hw
  obtain ⟨hP1, hD1⟩ := hB
  rw [ht] at hP1
  obtain ⟨hP2, hD2⟩ := va_join hP hD isC isR hC hR hn hdis hk hF hP1 hD1
  exact kk H1 locs1 (hg_subP hP2 isO hO) (hD2.sub isO hno hO) hS1
theorem hg_cl {r : Int64} (hr : va_Run p l e R s m args below meth c H locs cells slots 0 0 (F0 m pc ls st0) rest (hgQl D r w1 (va_A wc H.size) a) (va_A wc H.size)) (hP : va_P D vwCl ws H) (hD : va_D A0 ws) (hS : va_S A0 H0 H locs) (hA : ∀ q, H0.size ≤ q → A0 q) (isC isR isO : List Nat) (hC : isC.map (fun i => ws[i]?) = wc.map some) (hR : isR.map (fun i => ws[i]?) = wr.map some) (hn : va_nd isR = true) (hdis : ∀ i ∈ isR, i ∉ isC) (hO : isO.map (fun i => (wr ++ w1)[i]?) = wf.map some) (hno : va_nd isO = true)
    (kk : ∀ (H1 : Heap) (locs1 : List Loc), va_P D vwCl wf H1 → va_D A0 wf → va_S A0 H0 H1 locs1 → W p l e R s m args below meth c H1 locs1 cells slots Q (F0 m (pc + 3) ls (.long r :: rest))) : W p l e R s m args below meth c H locs cells slots Q (F0 m pc ls st0) := by
  have hF := va_free hD hS hA isC hC
  refine va_calll hr hS (fun q _ h => hF q h) hF (fun x u t H1 locs1 ht hvm hw hB hz hk hS1 => ?_)
  subst hw
  obtain ⟨hP1, hD1⟩ := hB
  rw [ht] at hP1
  obtain ⟨hP2, hD2⟩ := va_join hP hD isC isR hC hR hn hdis hk hF hP1 hD1
  exact kk H1 locs1 (hg_subP hP2 isO hO) (hD2.sub isO hno hO) hS1
theorem hg_cq {r : Option Nat} (hr : va_Run p l e R s m args below meth c H locs cells slots 0 0 (F0 m pc ls st0) rest (hgQq D r w1 (va_A wc H.size) a) (va_A wc H.size)) (hP : va_P D vwCl ws H) (hD : va_D A0 ws) (hS : va_S A0 H0 H locs) (hA : ∀ q, H0.size ≤ q → A0 q) (isC isR isO : List Nat) (hC : isC.map (fun i => ws[i]?) = wc.map some) (hR : isR.map (fun i => ws[i]?) = wr.map some) (hn : va_nd isR = true) (hdis : ∀ i ∈ isR, i ∉ isC) (hO : isO.map (fun i => (wr ++ w1)[i]?) = wf.map some) (hno : va_nd isO = true)
    (kk : ∀ (H1 : Heap) (locs1 : List Loc), va_P D vwCl wf H1 → va_D A0 wf → va_S A0 H0 H1 locs1 → W p l e R s m args below meth c H1 locs1 cells slots Q (F0 m (pc + 3) ls (va_rf r :: rest))) : W p l e R s m args below meth c H locs cells slots Q (F0 m pc ls st0) := by
  have hF := va_free hD hS hA isC hC
  refine va_callq hr hS (fun q _ h => hF q h) hF (fun x u t H1 locs1 ht hvm hw hB hz hk hS1 => ?_)
  subst hw
  obtain ⟨hP1, hD1⟩ := hB
  rw [ht] at hP1
  obtain ⟨hP2, hD2⟩ := va_join hP hD isC isR hC hR hn hdis hk hF hP1 hD1
  exact kk H1 locs1 (hg_subP hP2 isO hO) (hD2.sub isO hno hO) hS1
theorem hg_cv (hr : va_Run p l e R s m args below meth c H locs cells slots 0 0 (F0 m pc ls st0) rest (hgQv D w1 (va_A wc H.size) a) (va_A wc H.size)) (hP : va_P D vwCl ws H) (hD : va_D A0 ws) (hS : va_S A0 H0 H locs) (hA : ∀ q, H0.size ≤ q → A0 q) (isC isR isO : List Nat) (hC : isC.map (fun i => ws[i]?) = wc.map some) (hR : isR.map (fun i => ws[i]?) = wr.map some) (hn : va_nd isR = true) (hdis : ∀ i ∈ isR, i ∉ isC) (hO : isO.map (fun i => (wr ++ w1)[i]?) = wf.map some) (hno : va_nd isO = true)
    (kk : ∀ (H1 : Heap) (locs1 : List Loc), va_P D vwCl wf H1 → va_D A0 wf → va_S A0 H0 H1 locs1 → W p l e R s m args below meth c H1 locs1 cells slots Q (F0 m (pc + 3) ls rest)) : W p l e R s m args below meth c H locs cells slots Q (F0 m pc ls st0) := by
  have hF := va_free hD hS hA isC hC
  refine va_callv hr hS (fun q _ h => hF q h) hF (fun u t H1 locs1 ht hvm hw hB hz hk hS1 => ?_)
  obtain ⟨hP1, hD1⟩ := hB
  rw [ht] at hP1
  obtain ⟨hP2, hD2⟩ := va_join hP hD isC isR hC hR hn hdis hk hF hP1 hD1
  exact kk H1 locs1 (hg_subP hP2 isO hO) (hD2.sub isO hno hO) hS1
end HGW
/-- a bind that neither simp nor the elaborator opens by itself -/
def lxb {α β : Type} (x : α) (T : α → β) : β := T x
theorem lxb_o {α β : Type} {u : β} {x : α} {T : α → β} (h : u = lxb x T) : ∃ r, r = x ∧ u = T r := ⟨x, rfl, h⟩
/-- how many times a counted loop runs -/
def itn (a b : Int32) : Nat := (b.toInt - a.toInt).toNat
def itn1 (a b : Int32) : Nat := (b.toInt - a.toInt + 1).toNat
theorem hg_ti {k s : Nat} (h : k + s < 2 ^ 31) : (nI (k + s)).toInt = (k : Int) + s := by rw [nI_toInt h]; omega
theorem hg_lo0 {b : Int32} : b ≤ nI (itn 0 b) := by
  rw [Int32.le_iff_toInt_le]
  have h1 := Int32.toInt_lt b
  have h2 : (0 : Int32).toInt = 0 := rfl
  unfold itn
  rw [h2, nI_toInt (by omega)]
  omega
theorem hg_lo1 {b : Int32} {k : Nat} (hk : k < itn 0 b) : ¬ b ≤ nI k := by
  rw [Int32.le_iff_toInt_le]
  have h1 := Int32.toInt_lt b
  have h2 : (0 : Int32).toInt = 0 := rfl
  unfold itn at hk
  rw [h2] at hk
  rw [nI_toInt (by omega)]
  omega
theorem hg_ls0 {b : Int32} (s : Nat) (hs : s < 1000) (hb : nI s ≤ b) : b ≤ nI (itn (nI s) b + s) := by
  rw [Int32.le_iff_toInt_le] at *
  have h1 := Int32.toInt_lt b
  rw [nI_toInt (by omega)] at hb
  unfold itn
  rw [nI_toInt (show s < 2 ^ 31 by omega), nI_toInt (by omega)]
  omega
theorem hg_ls1 {b : Int32} {k : Nat} (s : Nat) (hs : s < 1000) (hk : k < itn (nI s) b) : ¬ b ≤ nI (k + s) := by
  rw [Int32.le_iff_toInt_le]
  have h1 := Int32.toInt_lt b
  unfold itn at hk
  rw [nI_toInt (show s < 2 ^ 31 by omega)] at hk
  rw [nI_toInt (by omega)]
  omega
theorem hg_lp0 {b : Int32} (s : Nat) (hs : s < 1000) (hb : b.toInt + 1 < 2147483648) : b < nI (itn1 (nI s) b + s) := by
  rw [Int32.lt_iff_toInt_lt]
  unfold itn1
  rw [nI_toInt (show s < 2 ^ 31 by omega), nI_toInt (by omega)]
  omega
theorem hg_lp1 {b : Int32} {k : Nat} (s : Nat) (hs : s < 1000) (hk : k < itn1 (nI s) b) : ¬ b < nI (k + s) := by
  rw [Int32.lt_iff_toInt_lt]
  have h1 := Int32.toInt_lt b
  unfold itn1 at hk
  rw [nI_toInt (show s < 2 ^ 31 by omega)] at hk
  rw [nI_toInt (by omega)]
  omega
theorem hg_lt {k a b : Nat} (hk : k < a) (h : a ≤ b) : k < b := Nat.lt_of_lt_of_le hk h
theorem hg_itns (s : Nat) (hs : s < 1000) {b : Int32} {n k : Nat} (e : b = nI n) (hn : n < 2 ^ 31) (hk : k < itn (nI s) b) : k + s < n := by
  unfold itn at hk
  rw [e, nI_toInt hn, nI_toInt (by omega)] at hk
  omega
theorem hg_itn0 {b : Int32} {n k : Nat} (e : b = nI n) (hn : n < 2 ^ 31) (hk : k < itn 0 b) : k + 0 < n := by
  unfold itn at hk
  rw [e, nI_toInt hn, show (0 : Int32).toInt = 0 from rfl] at hk
  omega
theorem hg_itn10 {b : Int32} {n k : Nat} (e : b = nI n) (hn : n < 2 ^ 31) (hk : k < itn1 0 b) : k + 0 ≤ n := by
  unfold itn1 at hk
  rw [e, nI_toInt hn, show (0 : Int32).toInt = 0 from rfl] at hk
  omega
theorem nx_add {x y : Int32} {a b : Nat} (hx : x = nI a) (hy : y = nI b) : x + y = nI (a + b) := by rw [hx, hy, nI_add]
theorem nx_mul {x y : Int32} {a b : Nat} (hx : x = nI a) (hy : y = nI b) : x * y = nI (a * b) := by rw [hx, hy, pk_mul]
theorem nx_idiv {x y : Int32} {a b : Nat} (hx : x = nI a) (hy : y = nI b) (ha : a < 2 ^ 31) (h0 : 0 < b) (hb : b < 2 ^ 31) : x / y = nI (a / b) := by rw [hx, hy, pk_div ha h0 hb]
theorem nx_irem {x y : Int32} {a b : Nat} (hx : x = nI a) (hy : y = nI b) (ha : a < 2 ^ 31) (h0 : 0 < b) (hb : b < 2 ^ 31) : x - x / y * y = nI (a % b) := by rw [hx, hy, pk_rem ha h0 hb]
theorem nx_shl1 {x : Int32} {a : Nat} (hx : x = nI a) (ha : a < 31) : (1 : Int32) <<< (x &&& 31) = nI (2 ^ a) := by
  subst hx
  have : ∀ n, n < 31 → (1 : Int32) <<< (nI n &&& 31) = nI (2 ^ n) := by decide +kernel
  exact this a ha
theorem hg_in {x : Int32} {n N : Nat} (hx : x = nI n) (h : n < N) (hN : N < 2 ^ 31) : vp_in x N := by rw [hx]; exact vp_in_nI h hN
theorem hg_in2 {x : Int32} {N : Nat} (h1 : 0 ≤ x) (h2 : x < nI N) (hN : N < 2 ^ 31) : vp_in x N := by
  rw [vp_in_iff]
  rw [Int32.le_iff_toInt_le] at h1
  rw [Int32.lt_iff_toInt_lt, nI_toInt hN] at h2
  exact ⟨h1, h2⟩
theorem hg_nat2 {x y : Int32} {N : Nat} (h1 : 0 ≤ x) (h2 : x < y) (hy : y = nI N) (hN : N < 2 ^ 31) : ∃ j : Nat, j < N ∧ x = nI j := vp_in_of (hg_in2 h1 (by rw [← hy]; exact h2) hN) hN
theorem hg_tout {x : Int32} {lo hi : Nat} (h : ∀ j : Nat, lo ≤ j → j ≤ hi → x ≠ nI j) : x.toInt < (lo : Int) ∨ (hi : Int) < x.toInt := by
  rcases Int.lt_or_le x.toInt lo with q | q
  · exact Or.inl q
  rcases Int.lt_or_le hi x.toInt with q2 | q2
  · exact Or.inr q2
  exfalso
  have h1 := Int32.toInt_lt x
  refine h x.toInt.toNat (by omega) (by omega) ?_
  apply Int32.toInt_inj.mp
  rw [nI_toInt (by omega)]
  omega
section HGL
variable {p : Program} {l : Launch} {e : Env} {R : Room} {s : State} {m : MethodId} {args : Array Value} {below : List Frame} {meth : Method} {c : Code} {H : Heap} {locs : List Loc} {cells slots : Nat} {Q : State → Prop} {pc : Nat} {ls : Array Slot} {rest : List Value} {D : va_G} {A0 : Nat → Prop} {H0 : Heap} {nL : Nat}
theorem hg_loopF {T : Type} {N : Nat} (I : T → va_W) (lv : Nat → T → List (Nat × Value)) (f : Nat → T)
    (hz : ∀ v, v = f N → ∀ (H : Heap) (locs : List Loc) (ls : Array Slot), va_P D vwCl (I v) H → va_D A0 (I v) → va_S A0 H0 H locs → lv_has ls nL (lv N v) → W p l e R s m args below meth c H locs cells slots Q (F0 m pc ls rest))
    (hs : ∀ k, k < N → ∀ v, v = f k → ∀ w, w = f (k + 1) → (∀ (H : Heap) (locs : List Loc) (ls : Array Slot), va_P D vwCl (I w) H → va_D A0 (I w) → va_S A0 H0 H locs → lv_has ls nL (lv (k + 1) w) → W p l e R s m args below meth c H locs cells slots Q (F0 m pc ls rest)) → ∀ (H : Heap) (locs : List Loc) (ls : Array Slot), va_P D vwCl (I v) H → va_D A0 (I v) → va_S A0 H0 H locs → lv_has ls nL (lv k v) → W p l e R s m args below meth c H locs cells slots Q (F0 m pc ls rest))
    (hP : va_P D vwCl (I (f 0)) H) (hD : va_D A0 (I (f 0))) (hS : va_S A0 H0 H locs) (hl : lv_has ls nL (lv 0 (f 0))) : W p l e R s m args below meth c H locs cells slots Q (F0 m pc ls rest) := by
  have K : ∀ (n k : Nat), k + n = N → ∀ (H : Heap) (locs : List Loc) (ls : Array Slot), va_P D vwCl (I (f k)) H → va_D A0 (I (f k)) → va_S A0 H0 H locs → lv_has ls nL (lv k (f k)) → W p l e R s m args below meth c H locs cells slots Q (F0 m pc ls rest) := by
    intro n
    induction n with
    | zero =>
      intro k hk
      obtain rfl : k = N := hk
      exact hz _ rfl
    | succ n ih =>
      intro k hk
      exact hs k (by omega) _ rfl _ rfl (ih (k + 1) (by omega))
  exact K N 0 (by omega) _ _ _ hP hD hS hl
theorem hg_loopS {T U : Type} {N : Nat} {u : U} (I : T → va_W) (lv : Nat → T → List (Nat × Value)) (g : Nat → Nat → T → U) (v0 : T) (hu : u = g N 0 v0)
    (hz : ∀ v, u = g 0 N v → ∀ (H : Heap) (locs : List Loc) (ls : Array Slot), va_P D vwCl (I v) H → va_D A0 (I v) → va_S A0 H0 H locs → lv_has ls nL (lv N v) → W p l e R s m args below meth c H locs cells slots Q (F0 m pc ls rest))
    (hs : ∀ n k, k + n + 1 = N → ∀ v, u = g (n + 1) k v → (∀ v', u = g n (k + 1) v' → ∀ (H : Heap) (locs : List Loc) (ls : Array Slot), va_P D vwCl (I v') H → va_D A0 (I v') → va_S A0 H0 H locs → lv_has ls nL (lv (k + 1) v') → W p l e R s m args below meth c H locs cells slots Q (F0 m pc ls rest)) → ∀ (H : Heap) (locs : List Loc) (ls : Array Slot), va_P D vwCl (I v) H → va_D A0 (I v) → va_S A0 H0 H locs → lv_has ls nL (lv k v) → W p l e R s m args below meth c H locs cells slots Q (F0 m pc ls rest))
    (hP : va_P D vwCl (I v0) H) (hD : va_D A0 (I v0)) (hS : va_S A0 H0 H locs) (hl : lv_has ls nL (lv 0 v0)) : W p l e R s m args below meth c H locs cells slots Q (F0 m pc ls rest) := by
  have K : ∀ (n k : Nat), k + n = N → ∀ v, u = g n k v → ∀ (H : Heap) (locs : List Loc) (ls : Array Slot), va_P D vwCl (I v) H → va_D A0 (I v) → va_S A0 H0 H locs → lv_has ls nL (lv k v) → W p l e R s m args below meth c H locs cells slots Q (F0 m pc ls rest) := by
    intro n
    induction n with
    | zero =>
      intro k hk
      obtain rfl : k = N := hk
      exact hz
    | succ n ih =>
      intro k hk v hv
      exact hs n k (by omega) v hv (ih (k + 1) (by omega))
  exact K N 0 (by omega) v0 hu _ _ _ hP hD hS hl
theorem hg_loopM {T U : Type} {N : Nat} {u : U} (μ : T → Nat) (I : T → va_W) (lv : Nat → T → List (Nat × Value)) (g : Nat → T → U) (v0 : T) (h0 : μ v0 < N) (hu : u = g N v0)
    (hs : ∀ n v, μ v < n + 1 → u = g (n + 1) v → (∀ v', μ v' < n → u = g n v' → ∀ (H : Heap) (locs : List Loc) (ls : Array Slot), va_P D vwCl (I v') H → va_D A0 (I v') → va_S A0 H0 H locs → lv_has ls nL (lv 0 v') → W p l e R s m args below meth c H locs cells slots Q (F0 m pc ls rest)) → ∀ (H : Heap) (locs : List Loc) (ls : Array Slot), va_P D vwCl (I v) H → va_D A0 (I v) → va_S A0 H0 H locs → lv_has ls nL (lv 0 v) → W p l e R s m args below meth c H locs cells slots Q (F0 m pc ls rest))
    (hP : va_P D vwCl (I v0) H) (hD : va_D A0 (I v0)) (hS : va_S A0 H0 H locs) (hl : lv_has ls nL (lv 0 v0)) : W p l e R s m args below meth c H locs cells slots Q (F0 m pc ls rest) := by
  have K : ∀ (n : Nat) v, μ v < n → u = g n v → ∀ (H : Heap) (locs : List Loc) (ls : Array Slot), va_P D vwCl (I v) H → va_D A0 (I v) → va_S A0 H0 H locs → lv_has ls nL (lv 0 v) → W p l e R s m args below meth c H locs cells slots Q (F0 m pc ls rest) := by
    intro n
    induction n with
    | zero => intro v hv; exact absurd hv (Nat.not_lt_zero _)
    | succ n ih =>
      intro v hv hg
      exact hs n v hv hg (fun v' h1 h2 => ih v' h1 h2)
  exact K N v0 h0 hu _ _ _ hP hD hS hl
theorem hg_cut {ws : va_W} {g g0 : JFrame} (k : ∀ (H1 : Heap) (locs1 : List Loc), va_P D vwCl ws H1 → va_D A0 ws → va_S A0 H0 H1 locs1 → W p l e R s m args below meth c H1 locs1 cells slots Q g)
    (j : (∀ (H1 : Heap) (locs1 : List Loc), va_P D vwCl ws H1 → va_D A0 ws → va_S A0 H0 H1 locs1 → W p l e R s m args below meth c H1 locs1 cells slots Q g) → W p l e R s m args below meth c H locs cells slots Q g0) : W p l e R s m args below meth c H locs cells slots Q g0 := j k
end HGL
theorem hg_nlt {x y : Int32} (h : ¬ x < y) : y ≤ x := Int32.not_lt.mp h
theorem hg_nle {x y : Int32} (h : ¬ x ≤ y) : y < x := Int32.not_le.mp h
theorem hg_tne (n : Nat) (hn : n < 1000) {x : Int32} (h : ¬ x = nI n) : ¬ ((n : Int) = x.toInt) := by
  intro q
  apply h
  apply Int32.toInt_inj.mp
  rw [nI_toInt (by omega)]
  omega
section HGC
variable {p : Program} {l : Launch} {e : Env} {R : Room} {s : State} {m : MethodId} {args : Array Value} {below : List Frame} {meth : Method} {c : Code} {H : Heap} {locs : List Loc} {cells slots : Nat} {Q : State → Prop} {cc : ByteArray} {pc : Nat} {ls : Array Slot} {rest : List Value} {x y : Int64} {off : Int} {tgt : Nat}
theorem hg_lcmp_lt (hx : p.tables.exec = Jvm.exec) (hb : c.code = cc) (hd0 : decode cc pc = .ok (.lcmp, 1)) (hdg : decode cc (pc + 1) = .ok (.ifCond .lt off, 3)) (ht : ((pc + 1 : Nat) : Int) + off = (tgt : Int)) (kt : x < y → W p l e R s m args below meth c H locs cells slots Q (F0 m tgt ls rest)) (kf : ¬ x < y → W p l e R s m args below meth c H locs cells slots Q (F0 m (pc + 1 + 3) ls rest)) : W p l e R s m args below meth c H locs cells slots Q (F0 m pc ls (.long y :: .long x :: rest)) :=
  W.lcmp hx hb hd0 (lv_if_lt hx hb hdg ht (fun q => kt ((lg_cmp_lt x y).mp q)) (fun q => kf (fun r => q ((lg_cmp_lt x y).mpr r))))
theorem hg_lcmp_ge (hx : p.tables.exec = Jvm.exec) (hb : c.code = cc) (hd0 : decode cc pc = .ok (.lcmp, 1)) (hdg : decode cc (pc + 1) = .ok (.ifCond .ge off, 3)) (ht : ((pc + 1 : Nat) : Int) + off = (tgt : Int)) (kt : y ≤ x → W p l e R s m args below meth c H locs cells slots Q (F0 m tgt ls rest)) (kf : ¬ y ≤ x → W p l e R s m args below meth c H locs cells slots Q (F0 m (pc + 1 + 3) ls rest)) : W p l e R s m args below meth c H locs cells slots Q (F0 m pc ls (.long y :: .long x :: rest)) :=
  W.lcmp hx hb hd0 (lv_if_ge hx hb hdg ht (fun q => kt ((lg_cmp_ge x y).mp q)) (fun q => kf (fun r => q ((lg_cmp_ge x y).mpr r))))
theorem hg_lcmp_gt (hx : p.tables.exec = Jvm.exec) (hb : c.code = cc) (hd0 : decode cc pc = .ok (.lcmp, 1)) (hdg : decode cc (pc + 1) = .ok (.ifCond .gt off, 3)) (ht : ((pc + 1 : Nat) : Int) + off = (tgt : Int)) (kt : y < x → W p l e R s m args below meth c H locs cells slots Q (F0 m tgt ls rest)) (kf : ¬ y < x → W p l e R s m args below meth c H locs cells slots Q (F0 m (pc + 1 + 3) ls rest)) : W p l e R s m args below meth c H locs cells slots Q (F0 m pc ls (.long y :: .long x :: rest)) :=
  W.lcmp hx hb hd0 (lv_if_gt hx hb hdg ht (fun q => kt ((lg_cmp_gt x y).mp q)) (fun q => kf (fun r => q ((lg_cmp_gt x y).mpr r))))
theorem hg_lcmp_le (hx : p.tables.exec = Jvm.exec) (hb : c.code = cc) (hd0 : decode cc pc = .ok (.lcmp, 1)) (hdg : decode cc (pc + 1) = .ok (.ifCond .le off, 3)) (ht : ((pc + 1 : Nat) : Int) + off = (tgt : Int)) (kt : x ≤ y → W p l e R s m args below meth c H locs cells slots Q (F0 m tgt ls rest)) (kf : ¬ x ≤ y → W p l e R s m args below meth c H locs cells slots Q (F0 m (pc + 1 + 3) ls rest)) : W p l e R s m args below meth c H locs cells slots Q (F0 m pc ls (.long y :: .long x :: rest)) :=
  W.lcmp hx hb hd0 (lv_if_le hx hb hdg ht (fun q => kt ((lg_cmp_le x y).mp q)) (fun q => kf (fun r => q ((lg_cmp_le x y).mpr r))))
end HGC
theorem hg_ne0 {x : Int32} (h : ¬ x < 1) : ¬ x = 0 := fun q => h (by rw [q]; decide)
theorem hg_ne0p {x : Int32} (h : ¬ x ≤ 0) : ¬ x = 0 := fun q => h (by rw [q]; decide)
theorem hg_ne0l {x : Int64} (h : ¬ x < 1) : ¬ x = 0 := fun q => h (by rw [q]; decide)
theorem hg_1le {x : Int32} (h : 1 ≤ x) : ¬ x = 0 := fun q => absurd h (by rw [q]; decide)
theorem hg_l10 {b : Int32} (hb : 1 ≤ b) : b ≤ nI (itn 1 b + 1) := hg_ls0 1 (by decide) hb
theorem hg_l11 {b : Int32} {k : Nat} (hk : k < itn 1 b) : ¬ b ≤ nI (k + 1) := hg_ls1 1 (by decide) hk
theorem hg_p00 {b : Int32} (hb : b.toInt + 1 < 2147483648) : b < nI (itn1 0 b) := hg_lp0 0 (by decide) hb
theorem hg_p01 {b : Int32} {k : Nat} (hk : k < itn1 0 b) : ¬ b < nI k := hg_lp1 0 (by decide) hk
theorem hg_p20 {b : Int32} (hb : b.toInt + 1 < 2147483648) : b < nI (itn1 2 b + 2) := hg_lp0 2 (by decide) hb
theorem hg_p21 {b : Int32} {k : Nat} (hk : k < itn1 2 b) : ¬ b < nI (k + 2) := hg_lp1 2 (by decide) hk
