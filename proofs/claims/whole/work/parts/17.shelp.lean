/-! the static row FACTORIALS: read, never written -/
def hgFa (t : Nat) (fa : Nat → Int32) (A : Nat → Prop) (U : State) : Prop := va_Z "HatGoesRound" "FACTORIALS" "[I" (.ref t) A U U.heap ∧ va_T .int t 7 (fun j => .int (fa j)) A U U.heap
abbrev hgPcX (av : List Value) (D : va_G) (cI cZ cM : ClassId) (ws : va_W) (sz t : Nat) (fa : Nat → Int32) : Array Value → State → Prop := va_Pc av (fun U => hgPre D cI cZ cM ws sz U ∧ hgFa t fa (va_A ws sz) U)
theorem hgFa.to {t : Nat} {fa : Nat → Int32} {A B : Nat → Prop} {s U : State} {H : Heap} {locs : List Loc} (h : hgFa t fa A s) (hS : va_S A s.heap H locs) (hU : U.heap = H) (hvm : s.vm.Alike U.vm) (hAB : ∀ q, B q → A q) : hgFa t fa B U := by
  subst hU
  exact ⟨((h.1.kept hS.2.1).moved hvm).narrow hAB, ((h.2.kept hS.2.1).moved hvm).narrow hAB⟩
theorem hgBlindX {av : List Value} {D : va_G} {cI cZ cM : ClassId} {ws : va_W} {sz t : Nat} {fa : Nat → Int32} : FrameBlind (hgPcX av D cI cZ cM ws sz t fa) := fun a U g mk q =>
  ⟨q.1, (hgBlind a U g mk (⟨q.1, q.2.1⟩ : hgPc av D cI cZ cM ws sz a U)).2, q.2.2.to va_S.rf rfl (Vm.Alike.refl U.vm) (fun _ h => h)⟩
theorem hgPreSX {s : State} {H : Heap} {D : va_G} {cI cZ cM : ClassId} {A : Nat → Prop} {As : List Value} {t : Nat} {fa : Nat → Int32} {locs : List Loc} (hK : va_K D vwCl (hgTy cI cZ cM) s) (hN : hgN s) (hFa : hgFa t fa A s) (hS : va_S A s.heap H locs) (hA : ∀ q : Nat, s.heap.size ≤ q → A q) : PreS s H (hgPcX As D cI cZ cM [] H.size t fa) As :=
  ⟨hgBlindX, fun U hU hW => ⟨rfl, ⟨by rw [hU], fun k q h => by simp at h, va_K.moved hW.alike hK, ⟨fun i j p q h => by simp at h, fun k q h => by simp at h⟩, hN.warm hW⟩, hFa.to hS hU hW.alike (fun q h => by
    rcases h with ⟨k, e, h⟩ | h
    · simp at h
    · exact hA q (Nat.le_trans hS.1 h))⟩⟩
theorem hgPreVX {s : State} {H : Heap} {D : va_G} {cI cZ cM : ClassId} {A A0 : Nat → Prop} {ws wc : va_W} {As : List Value} {b q0 ci N t : Nat} {C : String} {T : u_T} {fs : List Value} {fa : Nat → Int32} {locs : List Loc} (hFa : hgFa t fa A0 s) (hS : va_S A0 s.heap H locs) (hP : va_P D vwCl ws H) (hD : va_D A ws) (hK : va_K D vwCl (hgTy cI cZ cM) s) (hN : hgN s) (is : List Nat) (hn : va_nd is = true) (hC : is.map (fun i => ws[i]?) = wc.map some) (hF : ∀ q, va_A wc H.size q → A0 q) (hc : vwCl[ci]? = some (C, T, N)) (he : ws[q0]? = some (b, .inr (ci, fs))) : PreV s H C b (hgPcX (.ref b :: As) D cI cZ cM wc H.size t fa) As :=
  ⟨hgBlindX, va_recv hK hP hc he, fun U hU hW => ⟨rfl, ⟨by rw [hU], by rw [hU]; exact hg_subP hP is hC, va_K.moved hW.alike hK, (hD.sub is hn hC).weaken (fun _ _ _ _ => trivial), hN.warm hW⟩, hFa.to hS hU hW.alike hF⟩⟩
theorem hg_ofWX {l : Launch} {y : MethodName} {ws ws' : List Cond} {rm : Room} {args : List Value} {D : va_G} {cI cZ cM : ClassId} {ws0 : va_W} {sz mc ms maxL t : Nat} {fa : Nat → Int32} {cc : ByteArray} {ret : Option FieldType} {own : String} (Q : (Nat → Prop) → Array Value → State → Outcome → State → Prop) (hcls : y.cls = own)
    (hy : plainName y.cls = true) (hw : ws = Cond.code y cc maxL ret :: ws') (hlen : (lg_sl args).length ≤ maxL)
    (body : ∀ (p : Program) (e : Env) (s : State) (m : MethodId) (below : List Frame) (meth : Method) (c : Code) (ls : Array Slot) (A : Nat → Prop), s.heap.size = sz → p.tables.exec = Jvm.exec → c.code = cc → meth.sig.returnType = ret → c.maxLocals = maxL → s.vm.findClass own = some m.cls → (∀ w ∈ ws, w.before args.toArray s = true) → meth.locks = false → meth.name = y.name → va_K D vwCl (hgTy cI cZ cM) s → hgN s → (∀ q : Nat, s.heap.size ≤ q → A q) → va_P D vwCl ws0 s.heap → va_D A ws0 → va_S A s.heap s.heap [] → hgFa t fa A s → lv_has ls maxL (lv_args 0 args) →
      W p l e (headSpec ws rm).room s m args.toArray below meth c s.heap [] 0 0 (MQ below (Q A) args.toArray s mc ms A) (F0 m 0 ls [])) : Met l y ws rm (hgPcX args D cI cZ cM ws0 sz t fa) (Q (va_A ws0 sz)) mc ms (va_A ws0 sz) := by
  refine Met.ofW (cc := cc) (maxL := maxL) (ret := ret) hy hw ?_
  intro p e s m args' below meth c s₁ B hml hv
  obtain ⟨rfl, ⟨hsz, hP, hK, hD0, hN⟩, hFa⟩ := hv
  have hts := atoms_spec (ws := ws) B.pre
  have hown : s.vm.findClass own = some m.cls := by rw [← hcls]; exact findClass_of_methodNamed B.named
  have hD : va_D (va_A ws0 sz) ws0 := hD0.self (sz := sz)
  have hl := lv_entry args (n := maxL) hlen
  rw [lg_entry_eq]
  exact body p e s m below meth c _ (va_A ws0 sz) hsz B.exec B.bytes B.returns hml hown hts B.notSynchronized (name_of_methodNamed B.named B.method).1 hK hN (fun q h => Or.inr (by omega)) hP hD va_S.rf hFa hl
set_option maxHeartbeats 4000000 in
set_option maxRecDepth 100000 in
theorem c_X4_atS (l : Launch) (dC : Nat → ClassId) (dI : Nat → Nat → Nat) (cI cZ cM : ClassId) (sz : Nat) (fa_t : Nat) (fa_v : Nat → Int32) (x1 : Int32) (u : Int32) (hu : u = f_X4_at x1 7 fa_v) : Met l yX4_at wsX4_at { frames := 0, cells := 0, slots := 0, locals := 0 } (hgPcX [.ref fa_t, .int x1] (dC, dI) cI cZ cM [] sz fa_t fa_v) (hgQi (dC, dI) u [] (va_A [] sz)) 0 0 (va_A [] sz) := by
  refine hg_ofWX (cc := cX4_at) (maxL := 2) (ret := (some .int)) (own := RX4) (fun A => hgQi (dC, dI) u [] A) rfl (by decide) rfl (Nat.le_of_ble_eq_true rfl) ?_
  intro p e s m below meth c ls A hsz hx hb hr hml hown hts hlk hnm hK hN hA hP hD hS hFa hl
  subst hsz
  have hl : lv_has ls 2 [(0, .ref fa_t), (1, .int x1)] := hl
  unfold f_X4_at at hu
  refine lv_iload_n hx hb dX4_at_0 rfl (lv_at hl 1 rfl) ?_
  refine lv_if_lt (tgt := 16) hx hb dX4_at_1 (by decide) (fun c_1 => ?_) (fun c_1 => ?_)
  · have hu := hu.trans (if_pos c_1)
    refine lv_iconst (v := 0) hx hb dX4_at_16 (by decide) ?_
    subst hu
    exact hg_ri hx hb hr hlk rfl hP hD hS dX4_at_17
  · have hu := hu.trans (if_neg c_1)
    refine lv_iload_n hx hb dX4_at_4 rfl (lv_at hl 1 rfl) ?_
    refine lv_aload_n hx hb dX4_at_5 rfl (lv_at hl 0 rfl) ?_
    refine va_tlen (v := nI 7) hx hb hFa.2 hS rfl dX4_at_6 ?_
    refine lv_icmp_ge (tgt := 16) hx hb dX4_at_7 (by decide) (fun c_7 => ?_) (fun c_7 => ?_)
    · have hu := hu.trans (if_pos c_7)
      refine lv_iconst (v := 0) hx hb dX4_at_16 (by decide) ?_
      subst hu
      exact hg_ri hx hb hr hlk rfl hP hD hS dX4_at_17
    · have hu := hu.trans (if_neg c_7)
      refine lv_aload_n hx hb dX4_at_10 rfl (lv_at hl 0 rfl) ?_
      refine lv_iload_n hx hb dX4_at_11 rfl (lv_at hl 1 rfl) ?_
      refine va_ti (v := .int (fa_v (Int32.toNatClampNeg x1))) hx hb hFa.2 hS (hg_in2 (hg_nlt c_1) (hg_nle c_7) (by decide)) rfl dX4_at_12 ?_
      refine lv_goto (tgt := 17) hx hb dX4_at_13 (by decide) ?_
      subst hu
      exact hg_ri hx hb hr hlk rfl hP hD hS dX4_at_17
theorem mEvHf {y r : Int32} {n : Nat} (en : y = nI n) (hn : n ≤ 6) (er : r = f_X3_everybody y) : (Int32.toInt r) + 1 < 2147483648 := by
  have : ∀ n, n < 7 → (Int32.toInt (f_X3_everybody (nI n))) + 1 < 2147483648 := by decide +kernel
  rw [er, en]
  exact this n (by omega)
