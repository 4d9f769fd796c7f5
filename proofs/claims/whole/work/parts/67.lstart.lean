/-! the law: what holds at its entry, and small rows -/
theorem lw_inT {w : Cond} (h : w ∈ tables_1) : w ∈ lw_tbl := List.mem_append_right _ h
theorem NW.mB {T : TDt} {pl pd nx tk ht tm : Int32} {wi now : Nat → Int32} (hT : TW T) (h : NW T pl pd nx tk ht tm wi now) : mB now := by
  obtain ⟨a, h1, h2, h3, h4, h5⟩ := h
  have h8 := hT.2.1
  have hb := h1.2.1
  refine ⟨?_, h5⟩
  rw [show now 12 = nI a.2.2.1 from h4.2.1]
  exact Int32.not_lt.mp (nI_pos (by omega))
theorem RG.size {T : TDt} {q1 q2 ma mn : Int32} {b0 b1 b2 b3 b4 b5 : Nat → Int32} {br : Nat → Nat → Int32} {row : Nat → Int32} (h : RG T q1 q2 ma mn b0 b1 b2 b3 b4 b5 br row) : q2 = ma := by
  obtain ⟨f, g, s, hf, hg, hs, e1, e2, e3, e4, hS⟩ := h
  rw [e2, e3]
theorem m_strhyp {T : TDt} (hT : TW T) {pm bm : Int32} {prm wdm kdm lkm nom rpm : Nat → Int32} (hm : CT T pm bm prm wdm kdm lkm nom rpm) {a : AS} (hA : AW T a) {now : Nat → Int32} (hM : MR T 0 a now) (x0 x1 : Int32) {r2 : Int32} (e2 : r2 = f_X5_in (Int32.toInt64 x1) 0 10) (c2 : ¬ r2 = 0) {r3 : Int32} (e3 : r3 = f_X5_whoIs 0 0 pm now) {v : Int32 × Int32 × (Nat → Int32)} (ev : v = l_X5_strings_44 x0 x1 pm bm nom kdm lkm rpm r3 (0, 0, now) (itn 0 (1 <<< (pm &&& 31)))) : -2147483648 < (Int32.toInt v.1) ∧ 0 < (Int32.toInt v.2.1) := by
  have h6 := hT.1
  rcases rng x1 0 10 (by decide) (by decide) with ⟨x, _, x4, rfl⟩ | q
  · have w := m_who h6 (lv := 0) (by decide) hM.1 (fun p hp => (hA.1 p hp).1) (s := 0) (by decide)
    rw [← hm.1] at w
    exact (m_strsum hT hm.1 x0 (show x < 11 by omega) (e3.trans w) ev).1
  · exact absurd (e2.trans (in_n q (by decide) (by decide))) c2
section HGE
variable {p : Program} {l : Launch} {e : Env} {R : Room} {s : State} {m : MethodId} {args : Array Value} {below : List Frame} {meth : Method} {c : Code} {H : Heap} {locs : List Loc} {cells slots : Nat} {Q : State → Prop} {cc : ByteArray} {pc : Nat} {ls : Array Slot} {rest : List Value} {x y : Int64} {off : Int} {tgt : Nat}
theorem hg_lcmp_eq (hx : p.tables.exec = Jvm.exec) (hb : c.code = cc) (hd0 : decode cc pc = .ok (.lcmp, 1)) (hdg : decode cc (pc + 1) = .ok (.ifCond .eq off, 3)) (ht : ((pc + 1 : Nat) : Int) + off = (tgt : Int)) (kt : x = y → W p l e R s m args below meth c H locs cells slots Q (F0 m tgt ls rest)) (kf : ¬ x = y → W p l e R s m args below meth c H locs cells slots Q (F0 m (pc + 1 + 3) ls rest)) : W p l e R s m args below meth c H locs cells slots Q (F0 m pc ls (.long y :: .long x :: rest)) :=
  W.lcmp hx hb hd0 (lv_if_eq hx hb hdg ht (fun q => kt ((lg_cmp_eq x y).mp q)) (fun q => kf (fun r => q ((lg_cmp_eq x y).mpr r))))
end HGE
theorem lw_more {i L : Nat} (hL : L ≤ 256) (hi : i ≤ 256) (h : ¬ (Int32.ofNat L - 4 < nI i)) : i + 4 ≤ L := by
  rw [show Int32.ofNat L = nI L from rfl, show (4 : Int32) = nI 4 from rfl, Int32.lt_iff_toInt_lt, Int32.toInt_sub, nI_toInt (by omega), nI_toInt (by omega), nI_toInt (by omega), Int.bmod_eq_of_le (by omega) (by omega)] at h
  omega
theorem lw_nK {p : Program} {s : State} {m : MethodId} {meth : Method} {c : Code} {b L : Nat} {xs : Nat → Int32} (C0 : lw_At p s m meth c b L xs) : ∃ (dC : Nat → ClassId) (dI : Nat → Nat → Nat) (cI cZ cM : ClassId), va_K (dC, dI) vwCl (hgTy cI cZ cM) s := by
  obtain ⟨hx, hb, hr, hml, hown, hts, hX, hbl, hlocks, hgv⟩ := C0
  obtain ⟨c0, i0, k0⟩ := u_known (C := RX0) (T := TX0) (N := 3) (n := 3) hts inX0 (hts _ (lw_inT (List.mem_of_getElem? (i := 98) (by decide +kernel))))
  obtain ⟨c1, i1, k1⟩ := u_known (C := RX1) (T := TX1) (N := 4) (n := 4) hts inX1 (hts _ (lw_inT (List.mem_of_getElem? (i := 118) (by decide +kernel))))
  obtain ⟨c2, i2, k2⟩ := u_known (C := RX2) (T := TX2) (N := 7) (n := 7) hts inX2 (hts _ (lw_inT (List.mem_of_getElem? (i := 65) (by decide +kernel))))
  obtain ⟨c3, i3, k3⟩ := u_known (C := RX3) (T := TX3) (N := 8) (n := 8) hts inX3 (hts _ (lw_inT (List.mem_of_getElem? (i := 18) (by decide +kernel))))
  obtain ⟨c4, i4, k4⟩ := u_known (C := RX4) (T := TX4) (N := 13) (n := 13) hts inX4 (hts _ (lw_inT (List.mem_of_getElem? (i := 10) (by decide +kernel))))
  obtain ⟨c5, i5, k5⟩ := u_known (C := RX5) (T := TX5) (N := 29) (n := 29) hts inX5 (hts _ (lw_inT (List.mem_of_getElem? (i := 548) (by decide +kernel))))
  obtain ⟨cI, kI, pI, f1, f2, f3⟩ := Cond.arrayClass_spec (hts (.arrayClass .int) (lw_inT (List.mem_of_getElem? (i := 63) (by decide +kernel))))
  obtain ⟨cZ, kZ, pZ, z1, z2, z3⟩ := Cond.arrayClass_spec (hts (.arrayClass .boolean) (lw_inT (List.mem_of_getElem? (i := 641) (by decide +kernel))))
  obtain ⟨pM, cM, kM, m1, m2, m3, m4, m5⟩ := Cond.arrayOver_spec (hts (.arrayOver (.object "HatGoesRound$Moment")) (lw_inT (List.mem_of_getElem? (i := 104) (by decide +kernel))))
  refine ⟨fun k => if k = 0 then c0 else if k = 1 then c1 else if k = 2 then c2 else if k = 3 then c3 else if k = 4 then c4 else c5, fun k => if k = 0 then i0 else if k = 1 then i1 else if k = 2 then i2 else if k = 3 then i3 else if k = 4 then i4 else i5, cI, cZ, cM, ?_, ?_⟩
  · intro k q hq
    match k, hq with
    | 0, hq => cases hq; exact k0
    | 1, hq => cases hq; exact k1
    | 2, hq => cases hq; exact k2
    | 3, hq => cases hq; exact k3
    | 4, hq => cases hq; exact k4
    | 5, hq => cases hq; exact k5
    | k + 6, hq => simp [vwCl] at hq
  · intro k q hq
    match k, hq with
    | 0, hq => cases hq; exact ⟨fun n z => ⟨(fun k h => by cases h), kI, f2, pI, f3⟩, f1⟩
    | 1, hq => cases hq; exact ⟨fun n z => ⟨(fun k h => by cases h), kZ, z2, pZ, z3⟩, z1⟩
    | 2, hq => cases hq; exact ⟨fun n z => ⟨(fun k h => by cases h), kM, m3, pM, m4⟩, ⟨kM, pM, m3, m4, m1, m5⟩⟩
    | k + 3, hq => simp [hgTy] at hq
theorem lw_nN {p : Program} {s : State} {m : MethodId} {meth : Method} {c : Code} {b L : Nat} {xs : Nat → Int32} (C0 : lw_At p s m meth c b L xs) : hgN s := by
  obtain ⟨hx, hb, hr, hml, hown, hts, hX, hbl, hlocks, hgv⟩ := C0
  exact ⟨va_Nw.of rfl (hts _ (lw_inT (List.mem_of_getElem? (i := 196) (by decide +kernel)))), va_Nw.of rfl (hts _ (lw_inT (List.mem_of_getElem? (i := 211) (by decide +kernel)))), va_Nw.of rfl (hts _ (lw_inT (List.mem_of_getElem? (i := 232) (by decide +kernel)))), va_Nw.of rfl (hts _ (lw_inT (List.mem_of_getElem? (i := 233) (by decide +kernel)))), va_Nw.of rfl (hts _ (lw_inT (List.mem_of_getElem? (i := 324) (by decide +kernel)))), va_Nw.of rfl (hts _ (lw_inT (List.mem_of_getElem? (i := 462) (by decide +kernel)))), va_Nw.of rfl (hts _ (lw_inT (List.mem_of_getElem? (i := 479) (by decide +kernel)))), va_AO.of (hts _ (lw_inT (List.mem_of_getElem? (i := 104) (by decide +kernel))))⟩
def lw_fa : Nat → Int32 := fun j => f_X5_factorial (nI j)
theorem lw_nF {p : Program} {s : State} {m : MethodId} {meth : Method} {c : Code} {b L : Nat} {xs : Nat → Int32} (C0 : lw_At p s m meth c b L xs) : ∃ t, hgFa t lw_fa (fun q : Nat => s.heap.size ≤ q) s := by
  obtain ⟨hx, hb, hr, hml, hown, hts, hX, hbl, hlocks, hgv⟩ := C0
  have hs := flat_of_before _ hgv
  have hA : ∀ a : Nat, a < s.heap.size → ¬ (fun q : Nat => s.heap.size ≤ q) a := fun a h q => absurd h (Nat.not_lt.mpr q)
  have harr : (Cond.arrayOf (.static "HatGoesRound" "FACTORIALS" "[I") .int).before #[Value.ref b] s = true := hs _ (by decide +kernel)
  have hlen := va_eqt (hs (Cond.eq (.length (.static "HatGoesRound" "FACTORIALS" "[I")) (.int 7)) (by decide +kernel))
  have hel : ∀ j : Nat, j < 7 → (Term.elem (.static "HatGoesRound" "FACTORIALS" "[I") (.int (Int32.ofNat j))).eval #[Value.ref b] s none [] s = some (.int (lw_fa j)) := fun j hj => by
    rcases (show j = 0 ∨ j = 1 ∨ j = 2 ∨ j = 3 ∨ j = 4 ∨ j = 5 ∨ j = 6 by omega) with rfl | rfl | rfl | rfl | rfl | rfl | rfl
    · rw [show lw_fa 0 = 1 by decide +kernel]; exact va_eqt (hs (Cond.eq (.elem (.static "HatGoesRound" "FACTORIALS" "[I") (.int 0)) (.int 1)) (by decide +kernel))
    · rw [show lw_fa 1 = 1 by decide +kernel]; exact va_eqt (hs (Cond.eq (.elem (.static "HatGoesRound" "FACTORIALS" "[I") (.int 1)) (.int 1)) (by decide +kernel))
    · rw [show lw_fa 2 = 2 by decide +kernel]; exact va_eqt (hs (Cond.eq (.elem (.static "HatGoesRound" "FACTORIALS" "[I") (.int 2)) (.int 2)) (by decide +kernel))
    · rw [show lw_fa 3 = 6 by decide +kernel]; exact va_eqt (hs (Cond.eq (.elem (.static "HatGoesRound" "FACTORIALS" "[I") (.int 3)) (.int 6)) (by decide +kernel))
    · rw [show lw_fa 4 = 24 by decide +kernel]; exact va_eqt (hs (Cond.eq (.elem (.static "HatGoesRound" "FACTORIALS" "[I") (.int 4)) (.int 24)) (by decide +kernel))
    · rw [show lw_fa 5 = 120 by decide +kernel]; exact va_eqt (hs (Cond.eq (.elem (.static "HatGoesRound" "FACTORIALS" "[I") (.int 5)) (.int 120)) (by decide +kernel))
    · rw [show lw_fa 6 = 720 by decide +kernel]; exact va_eqt (hs (Cond.eq (.elem (.static "HatGoesRound" "FACTORIALS" "[I") (.int 6)) (.int 720)) (by decide +kernel))
  obtain ⟨t, ht, hT⟩ := va_Tof (tm := .static "HatGoesRound" "FACTORIALS" "[I") (ty := .int) (N := 7) (f := fun j => .int (lw_fa j)) (A := fun q : Nat => s.heap.size ≤ q) (by decide) harr hlen hel hA
  exact ⟨t, va_Zof (hts _ (lw_inT (List.mem_of_getElem? (i := 489) (by decide +kernel)))) (hts _ (lw_inT (List.mem_of_getElem? (i := 1) (by decide +kernel)))) ht hA, hT⟩
