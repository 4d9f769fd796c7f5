/-! THE ABSTRACT CONCERT: numbers alone; the class and the model are both held against it -/
abbrev TDt : Type := Nat × Nat × (Nat → Nat) × (Nat → Nat) × (Nat → Nat) × (Nat → Nat) × (Nat → Nat) × (Nat → Nat)
def tnp (T : TDt) : Nat := T.1
def tnb (T : TDt) : Nat := T.2.1
def tpr (T : TDt) : Nat → Nat := T.2.2.1
def twd (T : TDt) : Nat → Nat := T.2.2.2.1
def tkd (T : TDt) : Nat → Nat := T.2.2.2.2.1
def tlk (T : TDt) : Nat → Nat := T.2.2.2.2.2.1
def tno (T : TDt) : Nat → Nat := T.2.2.2.2.2.2.1
def trp (T : TDt) : Nat → Nat := T.2.2.2.2.2.2.2
def TW (T : TDt) : Prop := tnp T ≤ 6 ∧ tnb T ≤ 8 ∧ (∀ p, p < tnp T → tpr T p ≤ 9 ∧ twd T p ≤ 9 ∧ tkd T p ≤ 3 ∧ tlk T p ≤ 5) ∧ ∀ b, b < tnb T → tno T b ≤ 9 ∧ trp T b ≤ 7
/-- rows that hold what is told (the class's, and the model's) -/
def CT (T : TDt) (players bars : Int32) (pr wd kd lk no rp : Nat → Int32) : Prop := players = nI (tnp T) ∧ bars = nI (tnb T) ∧ (∀ p, p < tnp T → pr p = nI (tpr T p) ∧ wd p = nI (twd T p) ∧ kd p = nI (tkd T p) ∧ lk p = nI (tlk T p)) ∧ ∀ b, b < tnb T → no b = nI (tno T b) ∧ rp b = nI (trp T b)
/-- status (0 plays, 1 paid, 2 tired) and wind of each player -/
abbrev AT : Type := (Nat → Nat) × (Nat → Nat)
/-- status, wind, the bar that comes, repeats taken, hat, time -/
abbrev AS : Type := (Nat → Nat) × (Nat → Nat) × Nat × Int32 × Nat × Int32
def AW (T : TDt) (a : AS) : Prop := (∀ p, p < tnp T → a.1 p ≤ 2 ∧ a.2.1 p ≤ 9) ∧ a.2.2.1 ≤ tnb T ∧ a.2.2.2.2.1 ≤ 99
def sBlow (T : TDt) (loud : Bool) (k : Nat) (a : AT) : AT := if a.1 k = 0 then (if a.2 k - (if loud = true ∧ tkd T k = 2 then 2 else 1) = 0 then va_up a.1 k 2 else a.1, va_up a.2 k (a.2 k - (if loud = true ∧ tkd T k = 2 then 2 else 1))) else a
def aBlow (T : TDt) (loud : Bool) (a : AT) : Nat → AT
  | 0 => a
  | k + 1 => sBlow T loud k (aBlow T loud a k)
def sLean (T : TDt) (k : Nat) (st : Nat → Nat) : Nat → Nat := if st k = 0 ∧ tkd T k = 1 ∧ tlk T k < tnp T ∧ ¬ st (tlk T k) = 0 then va_up st k 2 else st
def aLean (T : TDt) (st : Nat → Nat) : Nat → Nat → Nat
  | 0 => st
  | k + 1 => sLean T k (aLean T st k)
/-- whether somebody other than a bass plays, among the first k -/
def aOther (T : TDt) (st : Nat → Nat) : Nat → Bool
  | 0 => false
  | k + 1 => aOther T st k || (decide (st k = 0) && !decide (tkd T k = 2))
def aLone (T : TDt) (st : Nat → Nat) : Nat → Nat := if aOther T st (tnp T) = true then st else fun p => if p < tnp T ∧ st p = 0 then 2 else st p
def sDrum (T : TDt) (k : Nat) (a : AT) : AT := if a.1 k = 2 ∧ tkd T k = 3 ∧ tlk T k < tnp T ∧ a.1 (tlk T k) = 0 then (va_up a.1 k 0, va_up a.2 k 2) else a
def aDrum (T : TDt) (a : AT) : Nat → AT
  | 0 => a
  | k + 1 => sDrum T k (aDrum T a k)
/-- how many of the first k play -/
def aMany (st : Nat → Nat) : Nat → Nat
  | 0 => 0
  | k + 1 => aMany st k + if st k = 0 then 1 else 0
def aSilent (T : TDt) (a : AS) : Bool := decide (aMany a.1 (tnp T) = 0) || decide (tnb T ≤ a.2.2.1)
def aTaken (tk : Int32) (b : Nat) : Bool := decide ((tk >>> (nI b &&& 31)) &&& 1 = 1)
def aTurn (T : TDt) (nx : Nat) (tk : Int32) : Nat × Int32 := if (1 ≤ trp T nx ∧ trp T nx ≤ tnb T) ∧ aTaken tk nx = false then (trp T nx - 1, tk ||| (1 <<< (nI nx &&& 31))) else (nx + 1, tk)
def aPlayers (T : TDt) (loud : Bool) (a : AT) : AT := aDrum T (aLone T (aLean T (aBlow T loud a (tnp T)).1 (tnp T)), (aBlow T loud a (tnp T)).2) (tnp T)
def aPass (T : TDt) (a : AS) : AS := if aSilent T a = true then a else
  ((aPlayers T (decide (5 ≤ tno T a.2.2.1)) (a.1, a.2.1)).1, (aPlayers T (decide (5 ≤ tno T a.2.2.1)) (a.1, a.2.1)).2, (aTurn T a.2.2.1 a.2.2.2.1).1, (aTurn T a.2.2.1 a.2.2.2.1).2, a.2.2.2.2.1, a.2.2.2.2.2 + 1)
def aNoise (T : TDt) (a : AS) : Nat := if aSilent T a = true then 0 else tno T a.2.2.1 * aMany a.1 (tnp T)
def aGo (T : TDt) (a : AS) : Nat → AS
  | 0 => a
  | k + 1 => aPass T (aGo T a k)
def aSum (T : TDt) (a : AS) : Nat → Nat
  | 0 => 0
  | k + 1 => aSum T a k + aNoise T (aGo T a k)
/-! ### tables of small masks -/
def bclr (m p : Nat) : Nat := if m.testBit p then m - 2 ^ p else m
def bset (m p : Nat) : Nat := if m.testBit p then m else m + 2 ^ p
def bit1 (m p : Nat) : Nat := if m.testBit p then 1 else 0
def bcnt (m : Nat) : Nat := bit1 m 0 + bit1 m 1 + bit1 m 2 + bit1 m 3 + bit1 m 4 + bit1 m 5
set_option maxRecDepth 100000 in
theorem tb_play : ∀ m, m < 64 → ∀ p, p < 6 → ((nI m >>> (nI p &&& 31)) &&& 1) = if m.testBit p then 1 else 0 := by decide +kernel
set_option maxRecDepth 100000 in
theorem tb_clr : ∀ m, m < 64 → ∀ p, p < 6 → (nI m &&& (((1 : Int32) <<< (nI p &&& 31)) ^^^ (-1))) = nI (bclr m p) ∧ bclr m p < 64 ∧ ∀ q, q < 6 → (bclr m p).testBit q = (m.testBit q && !decide (q = p)) := by decide +kernel
set_option maxRecDepth 100000 in
theorem tb_set : ∀ m, m < 64 → ∀ p, p < 6 → (nI m ||| ((1 : Int32) <<< (nI p &&& 31))) = nI (bset m p) ∧ bset m p < 64 ∧ ∀ q, q < 6 → (bset m p).testBit q = (m.testBit q || decide (q = p)) := by decide +kernel
set_option maxRecDepth 100000 in
theorem tb_cnt : ∀ m, m < 64 → f_J6_bitCount (nI m) = nI (bcnt m) := by decide +kernel
set_option maxRecDepth 100000 in
theorem tb_sub : ∀ m, m < 64 → ∀ k, k < 64 → (nI m &&& (nI k ^^^ (-1))) = nI (m &&& (63 ^^^ k)) ∧ (m &&& (63 ^^^ k)) < 64 := by decide +kernel
theorem tb_one : ∀ p, p < 6 → (1 : Int32) <<< (nI p &&& 31) = nI (2 ^ p) := by decide +kernel
/-- the mask of the players (below n) whose status is v -/
def BP (n : Nat) (st : Nat → Nat) (v : Nat) (x : Int32) : Prop := ∃ m, m < 64 ∧ x = nI m ∧ ∀ p, p < 6 → m.testBit p = decide (p < n ∧ st p = v)
theorem BP.keep {n v : Nat} {st st' : Nat → Nat} {x : Int32} (h : BP n st v x) (e : ∀ p, p < n → (st' p = v ↔ st p = v)) : BP n st' v x := by
  obtain ⟨m, h1, h2, h3⟩ := h
  refine ⟨m, h1, h2, fun p hp => ?_⟩
  rw [h3 p hp]
  by_cases c : p < n
  · simp only [c, true_and, e p c]
  · simp only [c, false_and]
theorem BP.play {n p : Nat} {st : Nat → Nat} {x : Int32} (h : BP n st 0 x) (hp : p < 6) : f_X2_isPlaying (nI p) x = if p < n ∧ st p = 0 then 1 else 0 := by
  obtain ⟨m, h1, h2, h3⟩ := h
  unfold f_X2_isPlaying
  rw [h2, tb_play m h1 p hp, h3 p hp]
  by_cases c : p < n ∧ st p = 0
  · simp [c]
  · simp [c]
theorem BP.paid {n p : Nat} {st : Nat → Nat} {x : Int32} (h : BP n st 1 x) (hp : p < 6) : f_X2_isPaid (nI p) x = if p < n ∧ st p = 1 then 1 else 0 := by
  obtain ⟨m, h1, h2, h3⟩ := h
  unfold f_X2_isPaid
  rw [h2, tb_play m h1 p hp, h3 p hp]
  by_cases c : p < n ∧ st p = 1
  · simp [c]
  · simp [c]
theorem BP.tire {n p : Nat} {st : Nat → Nat} {x : Int32} (h : BP n st 0 x) (hp : p < 6) : BP n (if st p = 0 then va_up st p 2 else st) 0 (f_X2_tire (1 <<< (nI p &&& 31)) x) := by
  obtain ⟨m, h1, h2, h3⟩ := h
  obtain ⟨e1, e2, e3⟩ := tb_clr m h1 p hp
  refine ⟨bclr m p, e2, by unfold f_X2_tire; rw [h2]; exact e1, fun q hq => ?_⟩
  rw [e3 q hq, h3 q hq]
  by_cases c : st p = 0
  · rw [if_pos c]
    by_cases d : q = p
    · subst d; simp [va_up]
    · simp [va_up, d]
  · rw [if_neg c]
    by_cases d : q = p
    · subst d; simp [c]
    · simp [d]
theorem BP.wake {n p : Nat} {st : Nat → Nat} {x : Int32} (h : BP n st 0 x) (hp : p < 6) (hn : p < n) : BP n (va_up st p 0) 0 (x ||| (1 <<< (nI p &&& 31))) := by
  obtain ⟨m, h1, h2, h3⟩ := h
  obtain ⟨e1, e2, e3⟩ := tb_set m h1 p hp
  refine ⟨bset m p, e2, by rw [h2]; exact e1, fun q hq => ?_⟩
  rw [e3 q hq, h3 q hq]
  by_cases d : q = p
  · subst d; simp [va_up, hn]
  · simp [va_up, d]
theorem at_in {p n : Nat} {v : Nat → Int32} (h : p < n) (hn : n < 2 ^ 31) : f_X4_at (nI p) n v = v p := by
  unfold f_X4_at
  rw [if_neg (nI_pos (by omega)), if_neg (nI_ge h hn), nI_clamp (by omega)]
theorem put_in {p n : Nat} {v : Nat → Int32} {x : Int32} (h : p < n) (hn : n < 2 ^ 31) : f_X4_put (nI p) x n v = upd v p x := by
  unfold f_X4_put
  rw [if_neg (nI_pos (by omega)), if_neg (nI_ge h hn), nI_clamp (by omega)]
theorem hasP {j n : Nat} (hj : j < 2 ^ 31) (hn : n < 2 ^ 31) : f_X3_hasPlayer (nI j) (nI n) = if j < n then 1 else 0 := by
  unfold f_X3_hasPlayer
  rw [if_neg (nI_pos hj)]
  by_cases c : j < n
  · rw [if_neg (nI_ge c hn), if_pos c]
  · rw [if_pos (nI_le (by omega) hj), if_neg c]
theorem itn0 {n : Nat} (h : n < 2 ^ 31) : itn 0 (nI n) = n := by
  unfold itn
  rw [nI_toInt h, show (0 : Int32).toInt = 0 from rfl]
  omega
theorem upd_s {f : Nat → Int32} {k : Nat} {x : Int32} : upd f k x k = x := pk_us
theorem upd_n {f : Nat → Int32} {k j : Nat} {x : Int32} (h : j ≠ k) : upd f k x j = f j := pk_un h
