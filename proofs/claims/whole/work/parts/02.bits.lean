def hb_b (x : Int64) (i : Nat) : Bool := x.toBitVec.getLsbD i
def hb_o (j : Nat) : Int64 := (1 : Int64) <<< ((nI j).toInt64 &&& 63)
theorem hb_ext {x y : Int64} (h : ∀ i, i < 64 → hb_b x i = hb_b y i) : x = y := wb_inj (BitVec.eq_of_getLsbD_eq h)
theorem hb_lt {x : Int64} {i : Nat} (h : hb_b x i = true) : i < 64 := BitVec.lt_of_getLsbD h
theorem hb_or {x y : Int64} {i : Nat} : hb_b (x ||| y) i = (hb_b x i || hb_b y i) := by
  unfold hb_b; rw [Int64.toBitVec_or, BitVec.getLsbD_or]
theorem hb_and {x y : Int64} {i : Nat} : hb_b (x &&& y) i = (hb_b x i && hb_b y i) := by
  unfold hb_b; rw [Int64.toBitVec_and, BitVec.getLsbD_and]
theorem hb_m1 {i : Nat} (hi : i < 64) : hb_b (-1) i = true := by
  unfold hb_b
  rw [show (-1 : Int64).toBitVec = BitVec.allOnes 64 by decide, BitVec.getLsbD_allOnes]
  exact decide_eq_true hi
theorem hb_not {x : Int64} {i : Nat} (hi : i < 64) : hb_b (x ^^^ (-1)) i = !(hb_b x i) := by
  have h := hb_m1 hi
  unfold hb_b at h ⊢
  rw [Int64.toBitVec_xor, BitVec.getLsbD_xor, h, Bool.xor_true]
theorem hb_0 {i : Nat} : hb_b 0 i = false := by
  unfold hb_b
  exact BitVec.getLsbD_zero
theorem hb_tp : ∀ j, j < 64 → ((1 : Int64) <<< ((nI j).toInt64 &&& 63)).toBitVec = BitVec.twoPow 64 j := by decide +kernel
theorem hb_ob {j i : Nat} (hj : j < 64) : hb_b (hb_o j) i = decide (j = i) := by
  unfold hb_b hb_o
  rw [hb_tp j hj, BitVec.getLsbD_twoPow, decide_eq_true hj, Bool.true_and]
theorem hb_1 {i : Nat} : hb_b 1 i = decide (0 = i) := by
  unfold hb_b
  rw [show (1 : Int64).toBitVec = BitVec.twoPow 64 0 by decide, BitVec.getLsbD_twoPow]
  simp
theorem hb_hx {x : Int64} {j : Nat} (hj : j < 64) : (((x.toUInt64 >>> ((nI j).toInt64.toUInt64 &&& Int64.toUInt64 63)).toInt64) &&& 1) = 0 ↔ hb_b x j = false := by
  refine ts_bit hj ?_
  rw [wb_cu j hj]
  exact Nat.mod_eq_of_lt (by omega)
theorem hb_a1 {y : Int64} : (y &&& 1) = 1 ↔ hb_b y 0 = true := by
  constructor
  · intro h
    have t := congrArg (fun z => hb_b z 0) h
    simp only [hb_and, hb_1] at t
    simpa using t
  · intro h
    refine hb_ext fun i hi => ?_
    rw [hb_and, hb_1]
    by_cases e : 0 = i
    · subst e; rw [h]; simp
    · simp [e]
theorem hb_sr {x : Int64} {j : Nat} (hj : j < 64) : hb_b (x >>> ((nI j).toInt64 &&& 63)) 0 = hb_b x j := by
  rw [wb_c j hj]
  show (x.toBitVec.sshiftRight ((lN j).toBitVec.smod 64).toNat).getLsbD 0 = x.toBitVec.getLsbD j
  rw [wb_tb, wb_sm j hj, BitVec.toNat_ofNat, Nat.mod_eq_of_lt (by omega), BitVec.getLsbD_sshiftRight]
  simp [hj]
theorem hb_iy {x : Int64} {j : Nat} (hj : j < 64) : ((x >>> ((nI j).toInt64 &&& 63)) &&& 1) = 1 ↔ hb_b x j = true := by
  rw [hb_a1, hb_sr hj]
theorem hb_sub {x y : Int64} : (x &&& (y ^^^ (-1))) = 0 ↔ ∀ i, hb_b x i = true → hb_b y i = true := by
  constructor
  · intro h i hx
    have hi := hb_lt hx
    have t := congrArg (fun z => hb_b z i) h
    simp only [hb_and, hb_0, hb_not hi, hx] at t
    simpa using t
  · intro h
    refine hb_ext fun i hi => ?_
    rw [hb_and, hb_0, hb_not hi]
    cases hx : hb_b x i with
    | false => rfl
    | true => rw [h i hx]; rfl
-- counting
def hb_ct (p : Nat → Bool) : Nat → Nat
  | 0 => 0
  | n + 1 => hb_ct p n + (p n).toNat
theorem hb_ct_le (p : Nat → Bool) : ∀ n, hb_ct p n ≤ n
  | 0 => Nat.le_refl 0
  | n + 1 => by
    have h := hb_ct_le p n
    have h2 : (p n).toNat ≤ 1 := Bool.toNat_le (p n)
    show hb_ct p n + (p n).toNat ≤ n + 1
    omega
theorem hb_ct_mono {p q : Nat → Bool} (h : ∀ i, p i = true → q i = true) : ∀ n, hb_ct p n ≤ hb_ct q n
  | 0 => Nat.le_refl 0
  | n + 1 => by
    have h1 := hb_ct_mono h n
    show hb_ct p n + (p n).toNat ≤ hb_ct q n + (q n).toNat
    cases hp : p n with
    | false => simp; omega
    | true => rw [h n hp]; omega
theorem hb_ct_lt {p q : Nat → Bool} (h : ∀ i, p i = true → q i = true) {k : Nat} (hp : p k = false) (hq : q k = true) : ∀ n, k < n → hb_ct p n < hb_ct q n
  | 0, hk => absurd hk (Nat.not_lt_zero k)
  | n + 1, hk => by
    show hb_ct p n + (p n).toNat < hb_ct q n + (q n).toNat
    by_cases e : k = n
    · subst e
      have h1 := hb_ct_mono h k
      rw [hp, hq]
      show _ + 0 < _ + 1
      omega
    · have h1 := hb_ct_lt h hp hq n (by omega)
      cases hpn : p n with
      | false => simp; omega
      | true => rw [h n hpn]; omega
theorem hb_grow {x y : Int64} (h : ∀ i, hb_b x i = true → hb_b y i = true) (hn : ¬ y = x) : hb_ct (hb_b x) 64 < hb_ct (hb_b y) 64 := by
  refine Classical.byContradiction fun hc => hn (hb_ext fun i hi => ?_)
  cases hx : hb_b x i with
  | true => exact h i hx
  | false =>
    refine ts_nt fun hy => hc (hb_ct_lt h hx hy 64 hi)
-- what the loops over the 64 states make
def hb_sz (x : Int64) : Nat → Nat → Int32 → Int32
  | 0, _, a => a
  | d + 1, j, a => hb_sz x d (j + 1) (if hb_b x j = true then a + 1 else a)
def hb_fo (c : Nat → Bool) : Nat → Nat → Int64 → Int64
  | 0, _, a => a
  | d + 1, j, a => hb_fo c d (j + 1) (if c j = true then a ||| hb_o j else a)
def hb_fr (f : Nat → Int64) (q : Int64) : Nat → Nat → Int64 → Int64
  | 0, _, a => a
  | d + 1, j, a => hb_fr f q d (j + 1) (if hb_b q j = true then a ||| f j else a)
theorem hb_fo_b {c : Nat → Bool} : ∀ d j a, j + d ≤ 64 → ∀ i, hb_b (hb_fo c d j a) i = (hb_b a i || (decide (j ≤ i ∧ i < j + d) && c i)) := by
  intro d
  induction d with
  | zero =>
    intro j a hj i
    have : ¬ (j ≤ i ∧ i < j + 0) := by omega
    rw [decide_eq_false this, Bool.false_and, Bool.or_false]
    rfl
  | succ d ih =>
    intro j a hj i
    show hb_b (hb_fo c d (j + 1) (if c j = true then a ||| hb_o j else a)) i = _
    rw [ih (j + 1) _ (by omega) i]
    by_cases e : j = i
    · subst e
      rw [decide_eq_false (by omega : ¬ (j + 1 ≤ j ∧ j < j + 1 + d)), decide_eq_true (by omega : j ≤ j ∧ j < j + (d + 1))]
      cases hc : c j with
      | true => simp [hb_or, hb_ob (show j < 64 by omega)]
      | false => simp
    · rw [show decide (j + 1 ≤ i ∧ i < j + 1 + d) = decide (j ≤ i ∧ i < j + (d + 1)) from decide_eq_decide.mpr (by omega)]
      cases hc : c j with
      | true => simp [hb_or, hb_ob (show j < 64 by omega), e]
      | false => simp
def hb_set (c : Nat → Bool) : Int64 := hb_fo c 64 0 0
theorem hb_set_b {c : Nat → Bool} {i : Nat} (hi : i < 64) : hb_b (hb_set c) i = c i := by
  unfold hb_set
  rw [hb_fo_b 64 0 0 (by omega) i, hb_0, decide_eq_true (by omega : 0 ≤ i ∧ i < 0 + 64), Bool.true_and, Bool.false_or]
