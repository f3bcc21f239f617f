section
theorem pk_uLs {f : Nat → Int64} {k : Nat} {x : Int64} : vp_updL f k x k = x := if_pos rfl
theorem pk_uLn {f : Nat → Int64} {k j : Nat} {x : Int64} (h : j ≠ k) : vp_updL f k x j = f j := if_neg h
theorem pk_sub {a b : Nat} (h : b ≤ a) : nI a - nI b = nI (a - b) := by
  obtain ⟨c, rfl⟩ : ∃ c, a = c + b := ⟨a - b, by omega⟩
  rw [← nI_add, Int32.add_sub_cancel, Nat.add_sub_cancel]
theorem pk_mul (a b : Nat) : nI a * nI b = nI (a * b) := (Int32.ofNat_mul a b).symm
theorem pk_div {a d : Nat} (ha : a < 2 ^ 31) (h0 : 0 < d) (hd : d < 2 ^ 31) : nI a / nI d = nI (a / d) := by
  apply Int32.toInt_inj.mp
  rw [lg_idiv_nonneg (by rw [nI_toInt ha]; omega) (by rw [nI_toInt hd]; omega), nI_toInt ha, nI_toInt hd, nI_toInt (Nat.lt_of_le_of_lt (Nat.div_le_self a d) ha)]
  first | rfl | exact (Int.natCast_ediv _ _).symm
theorem pk_rem {a d : Nat} (ha : a < 2 ^ 31) (h0 : 0 < d) (hd : d < 2 ^ 31) : nI a - nI a / nI d * nI d = nI (a % d) := by
  rw [pk_div ha h0 hd, pk_mul, pk_sub (Nat.div_mul_le_self a d)]
  exact congrArg nI (by have := Nat.div_add_mod' a d; omega)
theorem pk_ix (x : Int32) {n : Nat} (hn : n < 2 ^ 31) : x < 0 ∨ nI n ≤ x ∨ ∃ j : Nat, j < n ∧ x = nI j := by
  by_cases h : x < 0
  · exact Or.inl h
  · obtain ⟨j, hj, rfl⟩ := nI_of h
    by_cases h2 : j < n
    · exact Or.inr (Or.inr ⟨j, h2, rfl⟩)
    · exact Or.inr (Or.inl (nI_le (by omega) hj))
theorem pk_tn {n : Nat} (h : n < 2 ^ 32) : (nI n).toBitVec.toNat = n := Nat.mod_eq_of_lt h
theorem pk_and (x : Int32) {m : Int32} (k : Nat) (hm : m.toBitVec.toNat = 2 ^ k - 1) : x &&& m = nI (x.toBitVec.toNat % 2 ^ k) := by
  apply Int32.toBitVec_inj.mp
  apply BitVec.eq_of_toNat_eq
  rw [Int32.toBitVec_and, BitVec.toNat_and, hm, Nat.and_two_pow_sub_one_eq_mod]
  show _ = (BitVec.ofNat 32 _).toNat
  rw [BitVec.toNat_ofNat]
  exact (Nat.mod_eq_of_lt (Nat.lt_of_le_of_lt (Nat.mod_le _ _) x.toBitVec.isLt)).symm
theorem pk_andN {n : Nat} (h : n < 2 ^ 32) {m : Int32} (k : Nat) (hm : m.toBitVec.toNat = 2 ^ k - 1) : nI n &&& m = nI (n % 2 ^ k) := by
  rw [pk_and _ k hm, pk_tn h]
theorem pk_shr (a s : Int32) (k : Nat) (hs : (s.toBitVec.smod 32).toNat = k) : (a >>> s).toInt = a.toInt >>> k := by
  show (a.toBitVec.sshiftRight (s.toBitVec.smod 32).toNat).toInt = _
  rw [hs, BitVec.toInt_sshiftRight]
  rfl
theorem pk_shrN {n : Nat} (h : n < 2 ^ 31) (s : Int32) (k : Nat) (hs : (s.toBitVec.smod 32).toNat = k) : nI n >>> s = nI (n / 2 ^ k) := by
  apply Int32.toInt_inj.mp
  have h2 : n / 2 ^ k ≤ n := Nat.div_le_self _ _
  rw [pk_shr _ _ k hs, nI_toInt h, nI_toInt (by omega), Int.shiftRight_eq_div_pow]
  rfl
theorem ts_nf {x : Bool} (h : ¬ x = false) : x = true := by cases x <;> first | rfl | exact absurd rfl h
theorem ts_nt {x : Bool} (h : ¬ x = true) : x = false := by cases x <;> first | rfl | exact absurd rfl h
theorem ts_bit {w : Int64} {s : UInt64} {j : Nat} (hj : j < 64) (hs : s.toNat = j) : ((w.toUInt64 >>> s).toInt64 &&& 1) = 0 ↔ w.toBitVec.getLsbD j = false := by
  have e : (w.toUInt64 >>> s).toInt64.toBitVec = w.toBitVec >>> j := by
    apply BitVec.eq_of_toNat_eq
    show (w.toUInt64 >>> s).toNat = _
    rw [UInt64.toNat_shiftRight, hs, Nat.mod_eq_of_lt hj, BitVec.toNat_ushiftRight]
    rfl
  rw [← Int64.toBitVec_inj, Int64.toBitVec_and, e]
  show w.toBitVec >>> j &&& 1#64 = 0#64 ↔ _
  constructor
  · intro h
    have t := congrArg (fun x => x.getLsbD 0) h
    simpa using t
  · intro h
    apply BitVec.eq_of_getLsbD_eq
    intro i hi
    cases i with
    | zero => simp [h]
    | succ i => simp
theorem wb_tb (n : Nat) : (lN n).toBitVec = BitVec.ofNat 64 n := rfl
theorem wb_inj {a b : Int64} (h : a.toBitVec = b.toBitVec) : a = b := Int64.toBitVec_inj.mp h
theorem wb_c : ∀ k, k < 64 → ((nI k).toInt64 &&& 63) = lN k := by decide +kernel
theorem wb_cu : ∀ k, k < 64 → ((nI k).toInt64.toUInt64 &&& Int64.toUInt64 63) = UInt64.ofNat k := by decide +kernel
theorem wb_sm : ∀ k, k < 64 → (BitVec.ofNat 64 k).smod 64 = BitVec.ofNat 64 k := by decide +kernel
end
section
def hb_b (x : Int64) (i : Nat) : Bool := x.toBitVec.getLsbD i
def hb_o (j : Nat) : Int64 := (1 : Int64) <<< ((nI j).toInt64 &&& 63)
theorem hb_ext {x y : Int64} (h : ∀ i, i < 64 → hb_b x i = hb_b y i) : x = y := wb_inj (BitVec.eq_of_getLsbD_eq h)
theorem hb_lt {x : Int64} {i : Nat} (h : hb_b x i = true) : i < 64 := BitVec.lt_of_getLsbD h
theorem hb_or {x y : Int64} {i : Nat} : hb_b (x ||| y) i = (hb_b x i || hb_b y i) := by
  unfold hb_b; rw [Int64.toBitVec_or, BitVec.getLsbD_or]
theorem hb_and {x y : Int64} {i : Nat} : hb_b (x &&& y) i = (hb_b x i && hb_b y i) := by
  unfold hb_b; rw [Int64.toBitVec_and, BitVec.getLsbD_and]
theorem hb_m1 {i : Nat} (hi : i < 64) : hb_b (-1) i = true := by
  unfold hb_b
  rw [show (-1 : Int64).toBitVec = BitVec.allOnes 64 by decide, BitVec.getLsbD_allOnes]
  exact decide_eq_true hi
theorem hb_not {x : Int64} {i : Nat} (hi : i < 64) : hb_b (x ^^^ (-1)) i = !(hb_b x i) := by
  have h := hb_m1 hi
  unfold hb_b at h ⊢
  rw [Int64.toBitVec_xor, BitVec.getLsbD_xor, h, Bool.xor_true]
theorem hb_0 {i : Nat} : hb_b 0 i = false := by
  unfold hb_b
  exact BitVec.getLsbD_zero
theorem hb_tp : ∀ j, j < 64 → ((1 : Int64) <<< ((nI j).toInt64 &&& 63)).toBitVec = BitVec.twoPow 64 j := by decide +kernel
theorem hb_ob {j i : Nat} (hj : j < 64) : hb_b (hb_o j) i = decide (j = i) := by
  unfold hb_b hb_o
  rw [hb_tp j hj, BitVec.getLsbD_twoPow, decide_eq_true hj, Bool.true_and]
theorem hb_1 {i : Nat} : hb_b 1 i = decide (0 = i) := by
  unfold hb_b
  rw [show (1 : Int64).toBitVec = BitVec.twoPow 64 0 by decide, BitVec.getLsbD_twoPow]
  simp
theorem hb_hx {x : Int64} {j : Nat} (hj : j < 64) : (((x.toUInt64 >>> ((nI j).toInt64.toUInt64 &&& Int64.toUInt64 63)).toInt64) &&& 1) = 0 ↔ hb_b x j = false := by
  refine ts_bit hj ?_
  rw [wb_cu j hj]
  exact Nat.mod_eq_of_lt (by omega)
theorem hb_a1 {y : Int64} : (y &&& 1) = 1 ↔ hb_b y 0 = true := by
  constructor
  · intro h
    have t := congrArg (fun z => hb_b z 0) h
    simp only [hb_and, hb_1] at t
    simpa using t
  · intro h
    refine hb_ext fun i hi => ?_
    rw [hb_and, hb_1]
    by_cases e : 0 = i
    · subst e; rw [h]; simp
    · simp [e]
theorem hb_sr {x : Int64} {j : Nat} (hj : j < 64) : hb_b (x >>> ((nI j).toInt64 &&& 63)) 0 = hb_b x j := by
  rw [wb_c j hj]
  show (x.toBitVec.sshiftRight ((lN j).toBitVec.smod 64).toNat).getLsbD 0 = x.toBitVec.getLsbD j
  rw [wb_tb, wb_sm j hj, BitVec.toNat_ofNat, Nat.mod_eq_of_lt (by omega), BitVec.getLsbD_sshiftRight]
  simp [hj]
theorem hb_iy {x : Int64} {j : Nat} (hj : j < 64) : ((x >>> ((nI j).toInt64 &&& 63)) &&& 1) = 1 ↔ hb_b x j = true := by
  rw [hb_a1, hb_sr hj]
theorem hb_sub {x y : Int64} : (x &&& (y ^^^ (-1))) = 0 ↔ ∀ i, hb_b x i = true → hb_b y i = true := by
  constructor
  · intro h i hx
    have hi := hb_lt hx
    have t := congrArg (fun z => hb_b z i) h
    simp only [hb_and, hb_0, hb_not hi, hx] at t
    simpa using t
  · intro h
    refine hb_ext fun i hi => ?_
    rw [hb_and, hb_0, hb_not hi]
    cases hx : hb_b x i with
    | false => rfl
    | true => rw [h i hx]; rfl
-- counting
def hb_ct (p : Nat → Bool) : Nat → Nat
  | 0 => 0
  | n + 1 => hb_ct p n + (p n).toNat
theorem hb_ct_le (p : Nat → Bool) : ∀ n, hb_ct p n ≤ n
  | 0 => Nat.le_refl 0
  | n + 1 => by
    have h := hb_ct_le p n
    have h2 : (p n).toNat ≤ 1 := Bool.toNat_le (p n)
    show hb_ct p n + (p n).toNat ≤ n + 1
    omega
theorem hb_ct_mono {p q : Nat → Bool} (h : ∀ i, p i = true → q i = true) : ∀ n, hb_ct p n ≤ hb_ct q n
  | 0 => Nat.le_refl 0
  | n + 1 => by
    have h1 := hb_ct_mono h n
    show hb_ct p n + (p n).toNat ≤ hb_ct q n + (q n).toNat
    cases hp : p n with
    | false => simp; omega
    | true => rw [h n hp]; omega
theorem hb_ct_lt {p q : Nat → Bool} (h : ∀ i, p i = true → q i = true) {k : Nat} (hp : p k = false) (hq : q k = true) : ∀ n, k < n → hb_ct p n < hb_ct q n
  | 0, hk => absurd hk (Nat.not_lt_zero k)
  | n + 1, hk => by
    show hb_ct p n + (p n).toNat < hb_ct q n + (q n).toNat
    by_cases e : k = n
    · subst e
      have h1 := hb_ct_mono h k
      rw [hp, hq]
      show _ + 0 < _ + 1
      omega
    · have h1 := hb_ct_lt h hp hq n (by omega)
      cases hpn : p n with
      | false => simp; omega
      | true => rw [h n hpn]; omega
theorem hb_grow {x y : Int64} (h : ∀ i, hb_b x i = true → hb_b y i = true) (hn : ¬ y = x) : hb_ct (hb_b x) 64 < hb_ct (hb_b y) 64 := by
  refine Classical.byContradiction fun hc => hn (hb_ext fun i hi => ?_)
  cases hx : hb_b x i with
  | true => exact h i hx
  | false =>
    refine ts_nt fun hy => hc (hb_ct_lt h hx hy 64 hi)
-- what the loops over the 64 states make
def hb_sz (x : Int64) : Nat → Nat → Int32 → Int32
  | 0, _, a => a
  | d + 1, j, a => hb_sz x d (j + 1) (if hb_b x j = true then a + 1 else a)
def hb_fo (c : Nat → Bool) : Nat → Nat → Int64 → Int64
  | 0, _, a => a
  | d + 1, j, a => hb_fo c d (j + 1) (if c j = true then a ||| hb_o j else a)
def hb_fr (f : Nat → Int64) (q : Int64) : Nat → Nat → Int64 → Int64
  | 0, _, a => a
  | d + 1, j, a => hb_fr f q d (j + 1) (if hb_b q j = true then a ||| f j else a)
theorem hb_fo_b {c : Nat → Bool} : ∀ d j a, j + d ≤ 64 → ∀ i, hb_b (hb_fo c d j a) i = (hb_b a i || (decide (j ≤ i ∧ i < j + d) && c i)) := by
  intro d
  induction d with
  | zero =>
    intro j a hj i
    have : ¬ (j ≤ i ∧ i < j + 0) := by omega
    rw [decide_eq_false this, Bool.false_and, Bool.or_false]
    rfl
  | succ d ih =>
    intro j a hj i
    show hb_b (hb_fo c d (j + 1) (if c j = true then a ||| hb_o j else a)) i = _
    rw [ih (j + 1) _ (by omega) i]
    by_cases e : j = i
    · subst e
      rw [decide_eq_false (by omega : ¬ (j + 1 ≤ j ∧ j < j + 1 + d)), decide_eq_true (by omega : j ≤ j ∧ j < j + (d + 1))]
      cases hc : c j with
      | true => simp [hb_or, hb_ob (show j < 64 by omega)]
      | false => simp
    · rw [show decide (j + 1 ≤ i ∧ i < j + 1 + d) = decide (j ≤ i ∧ i < j + (d + 1)) from decide_eq_decide.mpr (by omega)]
      cases hc : c j with
      | true => simp [hb_or, hb_ob (show j < 64 by omega), e]
      | false => simp
def hb_set (c : Nat → Bool) : Int64 := hb_fo c 64 0 0
theorem hb_set_b {c : Nat → Bool} {i : Nat} (hi : i < 64) : hb_b (hb_set c) i = c i := by
  unfold hb_set
  rw [hb_fo_b 64 0 0 (by omega) i, hb_0, decide_eq_true (by omega : 0 ≤ i ∧ i < 0 + 64), Bool.true_and, Bool.false_or]
end
section
-- rows of an array of 64 longs a program
def hr_r (E : Nat → Int64) (b : Nat) : Nat → Int64 := fun s => if s < 64 then E (64 * b + s) else 0
def hr_w (E : Nat → Int64) (c : Nat) (F : Nat → Int64) (n : Nat) : Nat → Int64 := fun i => if 64 * c ≤ i ∧ i < 64 * c + n then F (i - 64 * c) else E i
theorem hr_rv {E : Nat → Int64} {b s : Nat} (h : s < 64) : E (64 * b + s) = hr_r E b s := (if_pos h).symm
theorem hr_w0 {E F : Nat → Int64} {c : Nat} : hr_w E c F 0 = E := funext fun i => if_neg (by omega)
theorem hr_ws {E F : Nat → Int64} {c n : Nat} : vp_updL (hr_w E c F n) (64 * c + n) (F n) = hr_w E c F (n + 1) := by
  funext i
  by_cases e : i = 64 * c + n
  · subst e
    rw [pk_uLs]
    unfold hr_w
    rw [if_pos (by omega), Nat.add_sub_cancel_left]
  · rw [pk_uLn e]
    unfold hr_w
    by_cases h : 64 * c ≤ i ∧ i < 64 * c + n
    · rw [if_pos h, if_pos (by omega)]
    · rw [if_neg h, if_neg (by omega)]
theorem hr_rw {E F : Nat → Int64} {b c n : Nat} (h : b < c) : hr_r (hr_w E c F n) b = hr_r E b := by
  funext s
  unfold hr_r
  by_cases hs : s < 64
  · rw [if_pos hs, if_pos hs]
    exact if_neg (by omega)
  · rw [if_neg hs, if_neg hs]
theorem hr_wv {E T : Nat → Int64} {c j : Nat} (h : j < 64) : hr_w E c T 64 (64 * c + j) = T j := by
  unfold hr_w
  rw [if_pos (by omega), Nat.add_sub_cancel_left]
theorem hr_wu {E T : Nat → Int64} {c j : Nat} {w : Int64} (h : j < 64) : vp_updL (hr_w E c T 64) (64 * c + j) w = hr_w E c (fun i => if i = j then w else T i) 64 := by
  funext i
  by_cases e : i = 64 * c + j
  · subst e
    rw [pk_uLs]
    unfold hr_w
    rw [if_pos (by omega), Nat.add_sub_cancel_left]
    exact (if_pos rfl).symm
  · rw [pk_uLn e]
    unfold hr_w
    by_cases h : 64 * c ≤ i ∧ i < 64 * c + 64
    · rw [if_pos h, if_pos h]
      exact (if_neg (by omega)).symm
    · rw [if_neg h, if_neg h]
theorem hr_wc {E T T' : Nat → Int64} {c n : Nat} (h : ∀ s, s < n → T s = T' s) : hr_w E c T n = hr_w E c T' n := by
  funext i
  unfold hr_w
  by_cases e : 64 * c ≤ i ∧ i < 64 * c + n
  · rw [if_pos e, if_pos e, h (i - 64 * c) (by omega)]
  · rw [if_neg e, if_neg e]
-- one step from s by the open branches
def hs_t (g h : Int64) (E : Nat → Int64) (a b : Nat) : Nat → Int64 := fun s =>
  if hb_b h s = true then (if hb_b g s = true then 0 ||| hr_r E a s else 0) ||| hr_r E b s else (if hb_b g s = true then 0 ||| hr_r E a s else 0)
theorem hs_tw {g h : Int64} {E F : Nat → Int64} {a b c n : Nat} (ha : a < c) (hb : b < c) : hs_t g h (hr_w E c F n) a b = hs_t g h E a b := by
  unfold hs_t
  rw [hr_rw ha, hr_rw hb]
theorem hs_t0 {g h : Int64} {E : Nat → Int64} {a b s i : Nat} (hg : hb_b g s = false) (hh : hb_b h s = false) : hb_b (hs_t g h E a b s) i = false := by
  unfold hs_t
  rw [hg, hh]
  exact hb_0
-- the closure in place
def hk_c (T : Nat → Int64) (m : Nat) : Nat → Int64 := fun s => if hb_b (T s) m = true then T s ||| T m else T s
def hk_k (T : Nat → Int64) : Nat → Nat → Int64
  | 0 => T
  | m + 1 => hk_c (hk_k T m) m
theorem hk_cb {T : Nat → Int64} {m s j : Nat} : hb_b (hk_c T m s) j = true ↔ (hb_b (T s) j = true ∨ (hb_b (T s) m = true ∧ hb_b (T m) j = true)) := by
  unfold hk_c
  by_cases h : hb_b (T s) m = true
  · rw [if_pos h, hb_or, Bool.or_eq_true]
    exact ⟨fun z => z.elim Or.inl (fun w => Or.inr ⟨h, w⟩), fun z => z.elim Or.inl (fun w => Or.inr w.2)⟩
  · rw [if_neg h]
    exact ⟨Or.inl, fun z => z.elim id (fun w => absurd w.1 h)⟩
theorem hk_row {T : Nat → Int64} {m j : Nat} (h : hb_b (hk_c T m m) j = true) : hb_b (T m) j = true := (hk_cb.mp h).elim id (fun w => w.2)
theorem hk_col {T : Nat → Int64} {m s : Nat} (h : hb_b (hk_c T m s) m = true) : hb_b (T s) m = true := (hk_cb.mp h).elim id (fun w => w.1)
theorem hk_sub {T : Nat → Int64} {s j : Nat} (h : hb_b (T s) j = true) : ∀ m, hb_b (hk_k T m s) j = true
  | 0 => h
  | m + 1 => hk_cb.mpr (Or.inl (hk_sub h m))
theorem hk_least {T : Nat → Int64} {Q : Nat → Nat → Prop} (hR : ∀ s j, hb_b (T s) j = true → Q s j) (hQ : ∀ s m j, Q s m → Q m j → Q s j) : ∀ m s j, hb_b (hk_k T m s) j = true → Q s j
  | 0, s, j, h => hR s j h
  | m + 1, s, j, h => (hk_cb.mp h).elim (hk_least hR hQ m s j) (fun w => hQ s m j (hk_least hR hQ m s m w.1) (hk_least hR hQ m m j w.2))
theorem hk_tr0 {T : Nat → Int64} : ∀ b m s j, m < b → hb_b (hk_k T b s) m = true → hb_b (hk_k T b m) j = true → hb_b (hk_k T b s) j = true := by
  intro b
  induction b with
  | zero => intro m s j h; exact absurd h (Nat.not_lt_zero m)
  | succ b ih =>
    intro m s j hm h1 h2
    by_cases e : m = b
    · subst e
      exact hk_cb.mpr (Or.inr ⟨hk_col h1, hk_row h2⟩)
    · have hb : m < b := by omega
      rcases hk_cb.mp h1 with h1 | h1
      · rcases hk_cb.mp h2 with h2 | h2
        · exact hk_cb.mpr (Or.inl (ih m s j hb h1 h2))
        · exact hk_cb.mpr (Or.inr ⟨ih m s b hb h1 h2.1, h2.2⟩)
      · rcases hk_cb.mp h2 with h2 | h2
        · exact hk_cb.mpr (Or.inr ⟨h1.1, ih m b j hb h1.2 h2⟩)
        · exact hk_cb.mpr (Or.inr ⟨h1.1, h2.2⟩)
theorem hk_tr {T : Nat → Int64} {m s j : Nat} (h1 : hb_b (hk_k T 64 s) m = true) (h2 : hb_b (hk_k T 64 m) j = true) : hb_b (hk_k T 64 s) j = true := hk_tr0 64 m s j (hb_lt h1) h1 h2
theorem hk_first {T : Nat → Int64} {s j : Nat} (h : hb_b (hk_k T 64 s) j = true) : hb_b (T s) j = true ∨ ∃ m, hb_b (T s) m = true ∧ hb_b (hk_k T 64 m) j = true := by
  refine (hk_least (T := T) (Q := fun s j => hb_b (hk_k T 64 s) j = true ∧ (hb_b (T s) j = true ∨ ∃ m, hb_b (T s) m = true ∧ hb_b (hk_k T 64 m) j = true)) (fun s j h => ⟨hk_sub h 64, Or.inl h⟩) ?_ 64 s j h).2
  intro s m j h1 h2
  refine ⟨hk_tr h1.1 h2.1, ?_⟩
  rcases h1.2 with h | ⟨t, ht, h⟩
  · exact Or.inr ⟨m, h, h2.1⟩
  · exact Or.inr ⟨t, ht, hk_tr h h2.1⟩
-- the sure states of the loop
def hk_S (T : Nat → Int64) (U : Nat → Prop) (s : Nat) : Prop := ¬ hb_b (hk_k T 64 s) s = true ∧ ¬ U s ∧ ∀ j, hb_b (hk_k T 64 s) j = true → ¬ hb_b (hk_k T 64 j) j = true ∧ ¬ U j
theorem hk_S_in {T : Nat → Int64} {U : Nat → Prop} {s : Nat} (hu : ¬ U s) (h : ∀ j, hb_b (T s) j = true → hk_S T U j) : hk_S T U s := by
  refine ⟨fun hs => ?_, hu, fun j hj => ?_⟩
  · rcases hk_first hs with h1 | ⟨m, h1, h2⟩
    · exact (h s h1).1 hs
    · exact ((h m h1).2.2 s h2).1 hs
  · rcases hk_first hj with h1 | ⟨m, h1, h2⟩
    · exact ⟨(h j h1).1, (h j h1).2.1⟩
    · exact (h m h1).2.2 j h2
theorem hk_S_out {T : Nat → Int64} {U : Nat → Prop} {D : Nat → Prop} (hD : ∀ s, s < 64 → ¬ U s → (∀ j, hb_b (T s) j = true → D j) → D s) : ∀ n s, hb_ct (hb_b (hk_k T 64 s)) 64 < n → s < 64 → hk_S T U s → D s := by
  intro n
  induction n with
  | zero => intro s h; exact absurd h (Nat.not_lt_zero _)
  | succ n ih =>
    intro s hn h6 hs
    refine hD s h6 hs.2.1 fun j hj => ?_
    have hk := hk_sub hj 64
    have hj2 := hs.2.2 j hk
    refine ih j ?_ (hb_lt hj) ⟨hj2.1, hj2.2, fun i hi => hs.2.2 i (hk_tr hk hi)⟩
    have := hb_ct_lt (p := hb_b (hk_k T 64 j)) (q := hb_b (hk_k T 64 s)) (fun i hi => hk_tr hk hi) (ts_nt hj2.1) hk 64 (hb_lt hk)
    omega
end
section
-- counters and places
theorem hi_le {j : Nat} (h : 64 ≤ j) (hj : j < 2 ^ 31) : (64 : Int32) ≤ nI j := nI_le (a := 64) h hj
theorem hi_gt {j : Nat} (h : j < 64) : ¬ (64 : Int32) ≤ nI j := nI_ge (b := 64) h (by decide)
theorem hi_x (c : Nat) : nI c * 64 = nI (64 * c) := by
  rw [show (64 : Int32) = nI 64 from rfl, pk_mul, Nat.mul_comm]
theorem hi_y (c : Nat) : (64 : Int32) * nI c = nI (64 * c) := by
  rw [show (64 : Int32) = nI 64 from rfl, pk_mul]
theorem hi_in {c j : Nat} (hc : c < 30) (hj : j < 64) : vp_in (nI (64 * c) + nI j) 1920 := by
  rw [nI_add]; exact vp_in_nI (by omega) (by decide)
theorem hi_cl {c j : Nat} (hc : c < 30) (hj : j < 64) : (nI (64 * c) + nI j).toNatClampNeg = 64 * c + j := by
  rw [nI_add]; exact nI_clamp (by omega)
theorem hi_iny {c j : Nat} (hc : c < 30) (hj : j < 64) : vp_in ((64 * nI c) + nI j) 1920 := by
  rw [hi_y]; exact hi_in hc hj
theorem hi_cly {c j : Nat} (hc : c < 30) (hj : j < 64) : ((64 * nI c) + nI j).toNatClampNeg = 64 * c + j := by
  rw [hi_y]; exact hi_cl hc hj
theorem hi_30 {c : Nat} (hc : c < 30) : vp_in (nI c) 30 := vp_in_nI hc (by decide)
theorem hi_c30 {c : Nat} (hc : c < 30) : (nI c).toNatClampNeg = c := nI_clamp (by omega)
theorem hi_rd (E : Nat → Int64) {c j : Nat} (hc : c < 30) (hj : j < 64) : E (nI (64 * c) + nI j).toNatClampNeg = hr_r E c j := by
  rw [hi_cl hc hj]; exact hr_rv hj
theorem hi_rdy (E : Nat → Int64) {c j : Nat} (hc : c < 30) (hj : j < 64) : E ((64 * nI c) + nI j).toNatClampNeg = hr_r E c j := by
  rw [hi_cly hc hj]; exact hr_rv hj
theorem hi_up {E F : Nat → Int64} {c j : Nat} {w : Int64} (hc : c < 30) (hj : j < 64) (hw : w = F j) : vp_updL (hr_w E c F j) (nI (64 * c) + nI j).toNatClampNeg w = hr_w E c F (j + 1) := by
  rw [hi_cl hc hj, hw]; exact hr_ws
theorem hi_upy {E F : Nat → Int64} {c j : Nat} {w : Int64} (hc : c < 30) (hj : j < 64) (hw : w = F j) : vp_updL (hr_w E c F j) ((64 * nI c) + nI j).toNatClampNeg w = hr_w E c F (j + 1) := by
  rw [hi_y]; exact hi_up hc hj hw
-- X: bits and sizes
theorem xa_has {A B : Prop} {x : Int64} {j : Nat} (hj : j < 64) (h1 : hb_b x j = true → B) (h0 : hb_b x j = false → A) : wpX_has (fun r => (r = 0 → A) ∧ (¬ r = 0 → B)) x (nI j) :=
  ⟨fun z => br_t rfl (h0 ((hb_hx hj).mp z)), fun z => br_f (by decide) (h1 (ts_nf fun w => z ((hb_hx hj).mpr w)))⟩
theorem ha_p {α : Type} {c : Bool} {a b : α} {P : α → Prop} (hc : c = true) (h : P (if c = true then a else b)) : P a := by rw [if_pos hc] at h; exact h
theorem ha_n {α : Type} {c : Bool} {a b : α} {P : α → Prop} (hc : c = false) (h : P (if c = true then a else b)) : P b := by rw [if_neg (by rw [hc]; decide)] at h; exact h
theorem xa_size0 {post : Int32 → Prop} {x : Int64} : ∀ d j a, j + d = 64 → post (hb_sz x d j a) → wX_sizeOf_4 post x (d + 1) a (nI j) := by
  intro d
  induction d with
  | zero => intro j a hj hp; exact br_t (hi_le (by omega) (by omega)) hp
  | succ d ih =>
    intro j a hj hp
    refine br_f (hi_gt (by omega)) (xa_has (by omega) (fun hb => ?_) (fun hb => ?_))
    · exact nm_e (nm_r (nI_1 j) (ih (j + 1) _ (by omega) (ha_p (P := fun z => post (hb_sz x d (j + 1) z)) hb hp)))
    · exact nm_r (nI_1 j) (ih (j + 1) _ (by omega) (ha_n (P := fun z => post (hb_sz x d (j + 1) z)) hb hp))
theorem xa_size {post : Int32 → Prop} {x : Int64} (hp : post (hb_sz x 64 0 0)) : wpX_sizeOf post x := ⟨65, xa_size0 64 0 0 rfl hp⟩
-- X: forms
def hv_v (f s : Nat) : Nat := (f / 64 * (s / 8) + f / 8 % 8 * (s % 8) + f % 8) % 8
theorem hv_lt {f s : Nat} : hv_v f s < 8 := Nat.mod_lt _ (by decide)
theorem hv_bd {f s : Nat} (hf : f < 512) (hs : s < 64) : f / 64 * (s / 8) + f / 8 % 8 * (s % 8) + f % 8 < 1000 := by
  have h1 : f / 64 * (s / 8) ≤ 7 * 7 := Nat.mul_le_mul (by omega) (by omega)
  have h2 : f / 8 % 8 * (s % 8) ≤ 7 * 7 := Nat.mul_le_mul (by omega) (by omega)
  omega
theorem hv_s {n : Nat} (h : n < 512) : nI n >>> ((3 : Int32) &&& 31) = nI (n / 8) := pk_shrN (by omega) _ 3 (by decide)
theorem hv_m {n : Nat} (h : n < 1000) : nI n &&& 7 = nI (n % 8) := pk_andN (by omega) 3 (by decide)
theorem xa_val {post : Int32 → Prop} {f s : Nat} (hf : f < 512) (hs : s < 64) (hp : post (nI (hv_v f s))) : wpX_valueOfForm post (nI f) (nI s) := by
  intro x2 e2 x3 e3 x4 e4 x5 e5 x6 e6
  have h2 : x2 = nI (f / 64) := e2.trans (pk_shrN (by omega) _ 6 (by decide))
  have h3 : x3 = nI (f / 8 % 8) := by rw [e3, hv_s hf, hv_m (by omega)]
  have h4 : x4 = nI (f % 8) := by rw [e4, hv_m (by omega)]
  have h5 : x5 = nI (s / 8) := by rw [e5, hv_s (by omega)]
  have h6 : x6 = nI (s % 8) := by rw [e6, hv_m (by omega)]
  have e : (((x2 * x5) + (x3 * x6)) + x4) &&& 7 = nI (hv_v f s) := by
    rw [h2, h3, h4, h5, h6, pk_mul, pk_mul, nI_add, nI_add, hv_m (hv_bd hf hs)]
    rfl
  rw [e]
  exact hp
def hv_c (f : Nat) (b : Int32) : Nat → Bool := fun s => decide (¬ b ≤ nI (hv_v f s))
theorem xa_below0 {post : Int64 → Prop} {f : Nat} {b : Int32} (hf : f < 512) : ∀ d j a, j + d = 64 → post (hb_fo (hv_c f b) d j a) → wX_statesBelow_5 post (nI f) b (d + 1) a (nI j) := by
  intro d
  induction d with
  | zero => intro j a hj hp; exact br_t (hi_le (by omega) (by omega)) hp
  | succ d ih =>
    intro j a hj hp
    refine br_f (hi_gt (by omega)) (xa_val hf (by omega) (br_c (fun hb => ?_) (fun hb => ?_)))
    · exact nm_r (nI_1 j) (ih (j + 1) _ (by omega) (ha_n (P := fun z => post (hb_fo (hv_c f b) d (j + 1) z)) (decide_eq_false (not_not_intro hb)) hp))
    · exact nm_e (nm_r (nI_1 j) (ih (j + 1) _ (by omega) (ha_p (P := fun z => post (hb_fo (hv_c f b) d (j + 1) z)) (decide_eq_true hb) hp)))
theorem xa_below {post : Int64 → Prop} {f : Nat} {b : Int32} (hf : f < 512) (hp : post (hb_set (hv_c f b))) : wpX_statesBelow post (nI f) b := ⟨65, xa_below0 hf 64 0 0 rfl hp⟩
def hv_a (w : Int32) (f s : Nat) : Nat := if w = 0 then 8 * hv_v f s + s % 8 else 8 * (s / 8) + hv_v f s
theorem hv_8 (n : Nat) : (8 : Int32) * nI n = nI (8 * n) := by rw [show (8 : Int32) = nI 8 from rfl, pk_mul]
theorem xa_after {post : Int32 → Prop} {w : Int32} {f s : Nat} (hf : f < 512) (hs : s < 64) (hp : post (nI (hv_a w f s))) : wpX_stateAfterAssignment post w (nI f) (nI s) := by
  refine xa_val hf hs (nm_r (hv_s (by omega)) (nm_r (hv_m (by omega)) (br_c (fun hw => ?_) (fun hw => ?_))))
  · unfold hv_a at hp
    rw [if_pos hw] at hp
    rw [hv_8, nI_add]
    exact hp
  · unfold hv_a at hp
    rw [if_neg hw] at hp
    rw [hv_8, nI_add]
    exact hp
-- X: rows
theorem xa_all0 {post : Int64 → Prop} {q : Int64} {b : Nat} {m : Int32} {g h : Int64} {E S : Nat → Int64} (hb : b < 30) : ∀ d j a, j + d = 64 → post (hb_fr (hr_r E b) q d j a) → wX_allEnds_12 post q (nI (64 * b)) m g h E S (d + 1) a (nI j) := by
  intro d
  induction d with
  | zero => intro j a hj hp; exact br_t (hi_le (by omega) (by omega)) hp
  | succ d ih =>
    intro j a hj hp
    have h6 : j < 64 := by omega
    refine br_f (hi_gt h6) (xa_has h6 (fun hq => ⟨hi_in hb h6, ?_⟩) (fun hq => ?_))
    · rw [hi_rd E hb h6]
      exact nm_e (nm_r (nI_1 j) (ih (j + 1) _ (by omega) (ha_p (P := fun z => post (hb_fr (hr_r E b) q d (j + 1) z)) hq hp)))
    · exact nm_r (nI_1 j) (ih (j + 1) _ (by omega) (ha_n (P := fun z => post (hb_fr (hr_r E b) q d (j + 1) z)) hq hp))
def hb_im (f : Nat → Int64) (q : Int64) : Int64 := hb_fr f q 64 0 0
theorem xa_all {post : Int64 → Prop} {q : Int64} {b : Nat} {m : Int32} {g h : Int64} {E S : Nat → Int64} (hb : b < 30) (hp : post (hb_im (hr_r E b) q)) : wpX_allEnds post (m, g, h, E, S) (nI b) q := nm_r (hi_x b) ⟨65, xa_all0 hb 64 0 0 rfl hp⟩
def hw_c (R : Nat → Int64) (q : Int64) : Nat → Bool := fun s => decide ((R s &&& (q ^^^ (-1))) = 0)
theorem xa_only0 {post : Int64 → Prop} {q : Int64} {b : Nat} {m : Int32} {g h : Int64} {E S : Nat → Int64} (hb : b < 30) : ∀ d j a, j + d = 64 → post (hb_fo (hw_c (hr_r E b) q) d j a) → wX_statesEndingOnlyIn_12 post q (nI (64 * b)) m g h E S (d + 1) a (nI j) := by
  intro d
  induction d with
  | zero => intro j a hj hp; exact br_t (hi_le (by omega) (by omega)) hp
  | succ d ih =>
    intro j a hj hp
    have h6 : j < 64 := by omega
    refine br_f (hi_gt h6) ⟨hi_in hb h6, ?_⟩
    rw [hi_rd E hb h6]
    refine br_c (fun hq => ?_) (fun hq => ?_)
    · exact nm_e (nm_r (nI_1 j) (ih (j + 1) _ (by omega) (ha_p (P := fun z => post (hb_fo (hw_c (hr_r E b) q) d (j + 1) z)) (decide_eq_true hq) hp)))
    · exact nm_r (nI_1 j) (ih (j + 1) _ (by omega) (ha_n (P := fun z => post (hb_fo (hw_c (hr_r E b) q) d (j + 1) z)) (decide_eq_false hq) hp))
theorem xa_only {post : Int64 → Prop} {q : Int64} {b : Nat} {m : Int32} {g h : Int64} {E S : Nat → Int64} (hb : b < 30) (hp : post (hb_set (hw_c (hr_r E b) q))) : wpX_statesEndingOnlyIn post (m, g, h, E, S) (nI b) q := nm_r (hi_x b) ⟨65, xa_only0 hb 64 0 0 rfl hp⟩
theorem xa_add {post : Int32 → SX → Prop} {c : Nat} {g h w : Int64} {E S : Nat → Int64} (hc : c < 30) (hp : post (nI c) (nI (c + 1), g, h, E, vp_updL S c w)) : wpX_addProgram post (nI c, g, h, E, S) w :=
  ⟨hi_30 hc, nm_r (by rw [hi_c30 hc]) (nm_r (nI_1 c) hp)⟩
theorem xa_skip0 {post : Int32 → SX → Prop} {c : Nat} {g h : Int64} {E S : Nat → Int64} (hc : c < 30) (hp : post (nI c) (nI (c + 1), g, h, hr_w E c hb_o 64, vp_updL S c (-1))) : ∀ d j, j + d = 64 → wX_skip_19 post (nI (64 * c)) (nI c) g h (d + 1) (nI j) (hr_w E c hb_o j) S := by
  intro d
  induction d with
  | zero =>
    intro j hj
    obtain rfl : j = 64 := hj
    exact br_t (hi_le (by omega) (by omega)) (xa_add hc hp)
  | succ d ih =>
    intro j hj
    have h6 : j < 64 := by omega
    exact br_f (hi_gt h6) ⟨hi_in hc h6, nm_r (hi_up hc h6 rfl) (nm_r (nI_1 j) (ih (j + 1) (by omega)))⟩
theorem xa_fail0 {post : Int32 → SX → Prop} {c : Nat} {g h : Int64} {E S : Nat → Int64} (hc : c < 30) (hp : post (nI c) (nI (c + 1), g, h, hr_w E c (fun _ => 0) 64, vp_updL S c 0)) : ∀ d j, j + d = 64 → wX_fail_19 post (nI (64 * c)) (nI c) g h (d + 1) (nI j) (hr_w E c (fun _ => 0) j) S := by
  intro d
  induction d with
  | zero =>
    intro j hj
    obtain rfl : j = 64 := hj
    exact br_t (hi_le (by omega) (by omega)) (xa_add hc hp)
  | succ d ih =>
    intro j hj
    have h6 : j < 64 := by omega
    exact br_f (hi_gt h6) ⟨hi_in hc h6, nm_r (hi_up hc h6 rfl) (nm_r (nI_1 j) (ih (j + 1) (by omega)))⟩
def hv_f (w : Int32) (f : Nat) : Nat → Int64 := fun s => hb_o (hv_a w f s)
theorem xa_assign0 {post : Int32 → SX → Prop} {w : Int32} {f c : Nat} {g h : Int64} {E S : Nat → Int64} (hf : f < 512) (hc : c < 30) (hp : post (nI c) (nI (c + 1), g, h, hr_w E c (hv_f w f) 64, vp_updL S c (-1))) : ∀ d j, j + d = 64 → wX_assign_30 post w (nI f) (nI (64 * c)) (nI c) g h (d + 1) (nI j) (hr_w E c (hv_f w f) j) S := by
  intro d
  induction d with
  | zero =>
    intro j hj
    obtain rfl : j = 64 := hj
    exact br_t (hi_le (by omega) (by omega)) (xa_add hc hp)
  | succ d ih =>
    intro j hj
    have h6 : j < 64 := by omega
    exact br_f (hi_gt h6) (xa_after hf h6 ⟨hi_in hc h6, nm_r (hi_up hc h6 rfl) (nm_r (nI_1 j) (ih (j + 1) (by omega)))⟩)
def hq_f (E : Nat → Int64) (a b : Nat) : Nat → Int64 := fun s => hb_im (hr_r E b) (hr_r E a s)
theorem xa_seq0 {post : Int32 → SX → Prop} {a b c : Nat} {g h : Int64} {E S : Nat → Int64} (ha : a < c) (hb : b < c) (hc : c < 30) (hp : post (nI c) (nI (c + 1), g, h, hr_w E c (hq_f E a b) 64, vp_updL S c (S a &&& hb_set (hw_c (hr_r E a) (S b))))) : ∀ d j, j + d = 64 → wX_sequence_45 post (nI a) (nI b) (nI (64 * c)) (nI (64 * a)) (nI c) g h (d + 1) (nI j) (hr_w E c (hq_f E a b) j) S := by
  have ha3 : a < 30 := by omega
  have hb3 : b < 30 := by omega
  intro d
  induction d with
  | zero =>
    intro j hj
    obtain rfl : j = 64 := hj
    refine br_t (hi_le (by omega) (by omega)) ⟨hi_30 hb3, xa_only ha3 ⟨hi_30 ha3, ?_⟩⟩
    rw [hi_c30 ha3, hi_c30 hb3, hr_rw ha]
    exact xa_add hc hp
  | succ d ih =>
    intro j hj
    have h6 : j < 64 := by omega
    refine br_f (hi_gt h6) ⟨hi_in ha3 h6, xa_all hb3 ⟨hi_in hc h6, nm_r (hi_up hc h6 ?_) (nm_r (nI_1 j) (ih (j + 1) (by omega)))⟩⟩
    rw [hi_rd (hr_w E c (hq_f E a b) j) ha3 h6, hr_rw ha, hr_rw hb]
    rfl
-- X: branches
theorem xa_wb87 {post : SX → Prop} {J : Int32 → (Nat → Int64) → (Nat → Int64) → Prop} {x4 x5 m : Int32} {c j : Nat} {x g h : Int64} {E S : Nat → Int64} (hc : c < 30) (hj : j < 64) (hp : J (nI (j + 1)) (vp_updL E (64 * c + j) x) S) : wX_writeBranches_87 post J (nI (64 * c)) x4 x5 (nI j) x m g h E S :=
  ⟨hi_in hc hj, nm_r (by rw [hi_cl hc hj]) (nm_r (nI_1 j) hp)⟩
theorem xa_wb60 {post : SX → Prop} {J : Int32 → (Nat → Int64) → (Nat → Int64) → Prop} {x4 m : Int32} {b c j : Nat} {x g h : Int64} {E S : Nat → Int64} (hb : b < 30) (hc : c < 30) (hj : j < 64) (hp : J (nI (j + 1)) (vp_updL E (64 * c + j) (if hb_b h j = true then x ||| hr_r E b j else x)) S) : wX_writeBranches_60 post J (nI (64 * c)) x4 (nI (64 * b)) (nI j) x m g h E S := by
  refine xa_has hj (fun hq => ⟨hi_in hb hj, ?_⟩) (fun hq => ?_)
  · rw [hi_rd E hb hj]
    exact nm_e (xa_wb87 hc hj (ha_p (P := fun z => J (nI (j + 1)) (vp_updL E (64 * c + j) z) S) hq hp))
  · exact xa_wb87 hc hj (ha_n (P := fun z => J (nI (j + 1)) (vp_updL E (64 * c + j) z) S) hq hp)
theorem xa_wb23 {post : SX → Prop} {a b c : Nat} {g h : Int64} {E S : Nat → Int64} (ha : a < c) (hb : b < c) (hc : c < 30) (hp : post (nI c, g, h, hr_w E c (hs_t g h E a b) 64, S)) : ∀ d j, j + d = 64 → wX_writeBranches_23 post (nI (64 * c)) (nI (64 * a)) (nI (64 * b)) (nI c) g h (d + 1) (nI j) (hr_w E c (hs_t g h E a b) j) S := by
  have ha3 : a < 30 := by omega
  have hb3 : b < 30 := by omega
  intro d
  induction d with
  | zero =>
    intro j hj
    obtain rfl : j = 64 := hj
    exact br_t (hi_le (by omega) (by omega)) hp
  | succ d ih =>
    intro j hj
    have h6 : j < 64 := by omega
    refine br_f (hi_gt h6) (xa_has h6 (fun hq => ⟨hi_in ha3 h6, ?_⟩) (fun hq => ?_))
    · rw [hi_rd (hr_w E c (hs_t g h E a b) j) ha3 h6]
      refine nm_e (xa_wb60 hb3 hc h6 ?_)
      have e : vp_updL (hr_w E c (hs_t g h E a b) j) (64 * c + j) (if hb_b h j = true then 0 ||| hr_r (hr_w E c (hs_t g h E a b) j) a j ||| hr_r (hr_w E c (hs_t g h E a b) j) b j else 0 ||| hr_r (hr_w E c (hs_t g h E a b) j) a j) = hr_w E c (hs_t g h E a b) (j + 1) := by
        rw [← hr_ws, hr_rw ha, hr_rw hb]
        congr 1
        unfold hs_t
        rw [if_pos hq]
      rw [e]
      exact ih (j + 1) (by omega)
    · refine xa_wb60 hb3 hc h6 ?_
      have e : vp_updL (hr_w E c (hs_t g h E a b) j) (64 * c + j) (if hb_b h j = true then 0 ||| hr_r (hr_w E c (hs_t g h E a b) j) b j else 0) = hr_w E c (hs_t g h E a b) (j + 1) := by
        rw [← hr_ws, hr_rw hb]
        congr 1
        unfold hs_t
        rw [hq]
        rfl
      rw [e]
      exact ih (j + 1) (by omega)
theorem xa_wb {post : SX → Prop} {a b c : Nat} {g h : Int64} {E S : Nat → Int64} (ha : a < c) (hb : b < c) (hc : c < 30) (hp : post (nI c, g, h, hr_w E c (hs_t g h E a b) 64, S)) : wpX_writeBranches post (nI c, g, h, E, S) (nI a) (nI b) := by
  have h := xa_wb23 ha hb hc hp 64 0 rfl
  rw [hr_w0] at h
  exact nm_r (hi_x c) (nm_r (hi_x a) (nm_r (hi_x b) ⟨65, h⟩))
def hu_u (g h : Int64) (S : Nat → Int64) (a b : Nat) : Int64 := (g &&& (S a ^^^ (-1))) ||| (h &&& (S b ^^^ (-1)))
theorem xa_un {post : Int64 → Prop} {a b : Nat} {m : Int32} {g h : Int64} {E S : Nat → Int64} (ha : a < 30) (hb : b < 30) (hp : post (hu_u g h S a b)) : wpX_unsureBranches post (m, g, h, E, S) (nI a) (nI b) := by
  refine ⟨hi_30 ha, hi_30 hb, ?_⟩
  rw [hi_c30 ha, hi_c30 hb]
  exact hp
-- X: the loop's closure
def hk_p (T : Nat → Int64) (m j : Nat) : Nat → Int64 := fun i => if i < j then hk_c T m i else T i
theorem hk_pj {T : Nat → Int64} {m j : Nat} : hk_p T m j j = T j := if_neg (by omega)
theorem hk_ps {T : Nat → Int64} {m j : Nat} {w : Int64} (hw : w = hk_c T m j) : (fun i => if i = j then w else hk_p T m j i) = hk_p T m (j + 1) := by
  funext i
  show (if i = j then w else hk_p T m j i) = hk_p T m (j + 1) i
  unfold hk_p
  by_cases e : i = j
  · subst e
    rw [if_pos rfl, if_pos (by omega), hw]
  · rw [if_neg e]
    by_cases h : i < j
    · rw [if_pos h, if_pos (by omega)]
    · rw [if_neg h, if_neg (by omega)]
theorem hk_pn {T : Nat → Int64} {m j : Nat} (hw : T j = hk_c T m j) : hk_p T m j = hk_p T m (j + 1) := by
  rw [← hk_ps hw]
  funext i
  show hk_p T m j i = if i = j then T j else hk_p T m j i
  by_cases e : i = j
  · subst e; rw [if_pos rfl, hk_pj]
  · rw [if_neg e]
theorem xa_cs28 {post : SX → Prop} {J : Int32 → (Nat → Int64) → (Nat → Int64) → Prop} {mm : Int32} {c m : Nat} {g h : Int64} {E S T : Nat → Int64} (hc : c < 30) (hm : m < 64) (hp : J (nI (m + 1)) (hr_w E c (hk_c T m) 64) S) : ∀ d j, j + d = 64 → wX_closeSteps_28 post J (nI (64 * c)) (nI m) (T m) mm g h (d + 1) (nI j) (hr_w E c (hk_p T m j) 64) S := by
  intro d
  induction d with
  | zero =>
    intro j hj
    obtain rfl : j = 64 := hj
    refine br_t (hi_le (by omega) (by omega)) (nm_r (nI_1 m) ?_)
    rw [hr_wc (T := hk_p T m 64) (T' := hk_c T m) (fun s hs => if_pos hs)]
    exact hp
  | succ d ih =>
    intro j hj
    have h6 : j < 64 := by omega
    refine br_f (hi_gt h6) ⟨hi_in hc h6, ?_⟩
    rw [hi_cl hc h6, hr_wv h6, hk_pj]
    refine xa_has hm (fun hq => ⟨hi_in hc h6, hi_in hc h6, nm_r ?_ (nm_r (nI_1 j) (ih (j + 1) (by omega)))⟩) (fun hq => nm_r (nI_1 j) ?_)
    · rw [hr_wu h6, hk_ps]
      exact (if_pos hq).symm
    · rw [hk_pn]
      · exact ih (j + 1) (by omega)
      · exact (if_neg (by rw [hq]; decide)).symm
theorem xa_cs10 {post : SX → Prop} {c : Nat} {mm : Int32} {g h : Int64} {E S T : Nat → Int64} (hc : c < 30) (hp : post (mm, g, h, hr_w E c (hk_k T 64) 64, S)) : ∀ d m, m + d = 64 → wX_closeSteps_10 post (nI (64 * c)) mm g h (d + 1) (nI m) (hr_w E c (hk_k T m) 64) S := by
  intro d
  induction d with
  | zero =>
    intro m hm
    obtain rfl : m = 64 := hm
    exact br_t (hi_le (by omega) (by omega)) hp
  | succ d ih =>
    intro m hm
    have h6 : m < 64 := by omega
    refine br_f (hi_gt h6) ⟨hi_in hc h6, nm_r (e' := hk_k T m m) (by rw [hi_cl hc h6, hr_wv h6]) ⟨65, ?_⟩⟩
    have e : hk_p (hk_k T m) m 0 = hk_k T m := funext fun i => if_neg (by omega)
    have z := xa_cs28 (post := post) (J := wX_closeSteps_10 post (nI (64 * c)) mm g h (d + 1)) (mm := mm) (g := g) (h := h) (E := E) (S := S) (T := hk_k T m) hc h6 (ih (m + 1) (by omega)) 64 0 rfl
    rw [e] at z
    exact z
theorem xa_cs {post : SX → Prop} {c : Nat} {g h : Int64} {E S T : Nat → Int64} (hc : c < 30) (hp : post (nI c, g, h, hr_w E c (hk_k T 64) 64, S)) : wpX_closeSteps post (nI c, g, h, hr_w E c T 64, S) :=
  nm_r (hi_x c) ⟨65, xa_cs10 (T := T) hc hp 64 0 rfl⟩
def hk_rc (R : Nat → Int64) : Nat → Bool := fun s => hb_b (R s) s
theorem xa_ret0 {post : Int64 → Prop} {b : Nat} {m : Int32} {g h : Int64} {E S : Nat → Int64} (hb : b < 30) : ∀ d j a, j + d = 64 → post (hb_fo (hk_rc (hr_r E b)) d j a) → wX_statesThatReturn_13 post (nI (64 * b)) m g h E S (d + 1) a (nI j) := by
  intro d
  induction d with
  | zero => intro j a hj hp; exact br_t (hi_le (by omega) (by omega)) hp
  | succ d ih =>
    intro j a hj hp
    have h6 : j < 64 := by omega
    refine br_f (hi_gt h6) ⟨hi_in hb h6, ?_⟩
    rw [hi_rd E hb h6]
    refine xa_has h6 (fun hq => ?_) (fun hq => ?_)
    · exact nm_e (nm_r (nI_1 j) (ih (j + 1) _ (by omega) (ha_p (P := fun z => post (hb_fo (hk_rc (hr_r E b)) d (j + 1) z)) hq hp)))
    · exact nm_r (nI_1 j) (ih (j + 1) _ (by omega) (ha_n (P := fun z => post (hb_fo (hk_rc (hr_r E b)) d (j + 1) z)) hq hp))
theorem xa_ret {post : Int64 → Prop} {c : Nat} {g h : Int64} {E S : Nat → Int64} (hc : c < 30) (hp : post (hb_set (hk_rc (hr_r E c)))) : wpX_statesThatReturn post (nI c, g, h, E, S) := nm_r (hi_x c) ⟨65, xa_ret0 hc 64 0 0 rfl hp⟩
theorem xa_avoid {post : Int64 → Prop} {c : Nat} {q g h : Int64} {E S : Nat → Int64} (hc : c < 30) (hp : post (hb_set (hw_c (hr_r E c) (q ^^^ (-1))) &&& (q ^^^ (-1)))) : wpX_statesThatAvoid post (nI c, g, h, E, S) q := xa_only hc hp
def hk_o (K : Nat → Int64) (w : Int64) : Nat → Int64 := fun s => (K s ||| hb_o s) &&& w
def hk_q (K : Nat → Int64) (w : Int64) (j : Nat) : Nat → Int64 := fun i => if i < j then hk_o K w i else K i
theorem xa_ko0 {post : SX → Prop} {c : Nat} {mm : Int32} {g h w : Int64} {E S K : Nat → Int64} (hc : c < 30) (hp : post (mm, g, h, hr_w E c (hk_o K w) 64, S)) : ∀ d j, j + d = 64 → wX_keepOnlyWayOut_25 post (nI (64 * c)) w mm g h (d + 1) (nI j) (hr_w E c (hk_q K w j) 64) S := by
  intro d
  induction d with
  | zero =>
    intro j hj
    obtain rfl : j = 64 := hj
    refine br_t (hi_le (by omega) (by omega)) ?_
    rw [hr_wc (T := hk_q K w 64) (T' := hk_o K w) (fun s hs => if_pos hs)]
    exact hp
  | succ d ih =>
    intro j hj
    have h6 : j < 64 := by omega
    refine br_f (hi_gt h6) ⟨hi_in hc h6, hi_in hc h6, nm_r ?_ (nm_r (nI_1 j) (ih (j + 1) (by omega)))⟩
    rw [hi_cl hc h6, hr_wv h6, hr_wu h6]
    refine hr_wc fun i _ => ?_
    show (if i = j then (hk_q K w j j ||| hb_o j) &&& w else hk_q K w j i) = hk_q K w (j + 1) i
    unfold hk_q
    by_cases e : i = j
    · subst e
      rw [if_pos rfl, if_neg (by omega), if_pos (by omega)]
      rfl
    · rw [if_neg e]
      by_cases h : i < j
      · rw [if_pos h, if_pos (by omega)]
      · rw [if_neg h, if_neg (by omega)]
theorem xa_ko {post : SX → Prop} {c : Nat} {g h : Int64} {E S K : Nat → Int64} (hc : c < 30) (hp : post (nI c, g, h, hr_w E c (hk_o K ((g ||| h) ^^^ (-1))) 64, S)) : wpX_keepOnlyWayOut post (nI c, g, h, hr_w E c K 64, S) := by
  have z := xa_ko0 (K := K) (w := (g ||| h) ^^^ (-1)) hc hp 64 0 rfl
  rw [show hk_q K ((g ||| h) ^^^ (-1)) 0 = K from funext fun i => if_neg (by omega)] at z
  exact nm_r (hi_x c) (nm_e ⟨65, z⟩)
end
section
-- Y: bits, sizes, subsets
theorem ya_in {A B : Prop} {u : SY} {x : Int64} {j : Nat} (hj : j < 64) (h1 : hb_b x j = true → B) (h0 : hb_b x j = false → A) : wpY_in (fun r => (r = 0 → A) ∧ (¬ r = 0 → B)) u x (nI j) := by
  obtain ⟨g, h, c, E, S⟩ := u
  exact ⟨fun z => br_f (by decide) (h1 ((hb_iy hj).mp z)), fun z => br_t rfl (h0 (ts_nt fun w => z ((hb_iy hj).mpr w)))⟩
theorem ya_part {A B : Prop} {u : SY} {x y : Int64} (h1 : (x &&& (y ^^^ (-1))) = 0 → B) (h0 : ¬ (x &&& (y ^^^ (-1))) = 0 → A) : wpY_part (fun r => (r = 0 → A) ∧ (¬ r = 0 → B)) u x y := by
  obtain ⟨g, h, c, E, S⟩ := u
  exact ⟨fun z => br_f (by decide) (h1 z), fun z => br_t rfl (h0 z)⟩
theorem ya_size0 {post : Int32 → Prop} {x g h : Int64} {c : Int32} {E S : Nat → Int64} : ∀ d j a, j + d = 64 → post (hb_sz x d j a) → wY_size_5 post x g h c E S (d + 1) a (nI j) := by
  intro d
  induction d with
  | zero => intro j a hj hp; exact br_t (hi_le (by omega) (by omega)) hp
  | succ d ih =>
    intro j a hj hp
    refine br_f (hi_gt (by omega)) (ya_in (by omega) (fun hb => ?_) (fun hb => ?_))
    · exact nm_e (nm_r (nI_1 j) (ih (j + 1) _ (by omega) (ha_p (P := fun z => post (hb_sz x d (j + 1) z)) hb hp)))
    · exact nm_r (nI_1 j) (ih (j + 1) _ (by omega) (ha_n (P := fun z => post (hb_sz x d (j + 1) z)) hb hp))
theorem ya_size {post : Int32 → Prop} {u : SY} {x : Int64} (hp : post (hb_sz x 64 0 0)) : wpY_size post u x := by
  obtain ⟨g, h, c, E, S⟩ := u
  exact ⟨65, ya_size0 64 0 0 rfl hp⟩
theorem ya_keep1 {post : Int32 → SY → Prop} {g h q : Int64} {c : Int32} {E S : Nat → Int64} {w : Int32} (hw : w = 0) (hp : post (hb_sz q 64 0 0) (q, h, c, E, S)) : wpY_keep post (g, h, c, E, S) w q := br_t hw (ya_size hp)
theorem ya_keep2 {post : Int32 → SY → Prop} {g h q : Int64} {c : Int32} {E S : Nat → Int64} {w : Int32} (hw : ¬ w = 0) (hp : post (hb_sz q 64 0 0) (g, q, c, E, S)) : wpY_keep post (g, h, c, E, S) w q := br_f hw (ya_size hp)
-- Y: forms
theorem hv_d8 {n : Nat} (h : n < 1000) : nI n / 8 = nI (n / 8) := pk_div (d := 8) (by omega) (by decide) (by decide)
theorem hv_r8 {n : Nat} (h : n < 1000) : nI n - nI n / 8 * 8 = nI (n % 8) := pk_rem (d := 8) (by omega) (by decide) (by decide)
theorem ya_worth {post : Int32 → Prop} {u : SY} {f s : Nat} (hf : f < 512) (hs : s < 64) (hp : post (nI (hv_v f s))) : wpY_worth post u (nI f) (nI s) := by
  obtain ⟨g, h, c, E, S⟩ := u
  have h64 : nI f / 64 = nI (f / 64) := pk_div (d := 64) (by omega) (by decide) (by decide)
  have e : ((((nI f / 64) * (nI s / 8)) + (((nI f / 8) - (nI f / 8) / 8 * 8) * (nI s - nI s / 8 * 8))) + (nI f - nI f / 8 * 8)) = nI (f / 64 * (s / 8) + f / 8 % 8 * (s % 8) + f % 8) := by
    rw [hv_r8 (n := s) (by omega), hv_r8 (n := f) (by omega), hv_d8 (n := s) (by omega), hv_d8 (n := f) (by omega), hv_r8 (n := f / 8) (by omega), h64, pk_mul, pk_mul, nI_add, nI_add]
  refine ⟨by decide, by decide, by decide, by decide, by decide, by decide, by decide, ?_⟩
  rw [e, hv_r8 (hv_bd hf hs)]
  exact hp
theorem ya_cmp0 {post : Int32 → SY → Prop} {w b : Int32} {f : Nat} {g h : Int64} {c : Int32} {E S : Nat → Int64} (hf : f < 512) : ∀ d j a, j + d = 64 → wpY_keep post (g, h, c, E, S) w (hb_fo (hv_c f b) d j a) → wY_compare_32 post w (nI f) b g h c E S (d + 1) a (nI j) := by
  intro d
  induction d with
  | zero => intro j a hj hp; exact br_t (hi_le (by omega) (by omega)) hp
  | succ d ih =>
    intro j a hj hp
    refine br_f (hi_gt (by omega)) (ya_worth hf (by omega) (br_c (fun hb => ?_) (fun hb => ?_)))
    · exact nm_r (nI_1 j) (ih (j + 1) _ (by omega) (ha_n (P := fun z => wpY_keep post (g, h, c, E, S) w (hb_fo (hv_c f b) d (j + 1) z)) (decide_eq_false (not_not_intro hb)) hp))
    · exact nm_e (nm_r (nI_1 j) (ih (j + 1) _ (by omega) (ha_p (P := fun z => wpY_keep post (g, h, c, E, S) w (hb_fo (hv_c f b) d (j + 1) z)) (decide_eq_true hb) hp)))
-- Y: skip and fail
theorem hi_3 {c : Nat} (hc : c < 30) : ¬ (30 : Int32) ≤ nI c := nI_ge (b := 30) hc (by decide)
theorem ya_p72 {post : Int32 → SY → Prop} {c : Nat} {w g h : Int64} {E S : Nat → Int64} (hc : c < 30) (hp : post (nI c) (g, h, nI (c + 1), E, vp_updL S c w)) : vp_in (nI c) 30 ∧ ∀ s2, s2 = vp_updL S (nI c).toNatClampNeg w → ∀ c2, c2 = nI c + 1 → post (nI c) (g, h, c2, E, s2) :=
  ⟨hi_30 hc, nm_r (by rw [hi_c30 hc]) (nm_r (nI_1 c) hp)⟩
theorem ya_pl1 {post : Int32 → SY → Prop} {c : Nat} {g h : Int64} {E S : Nat → Int64} (hc : c < 30) (hp : post (nI c) (g, h, nI (c + 1), hr_w E c hb_o 64, vp_updL S c (-1))) : ∀ d j, j + d = 64 → wY_plain_16 post 1 (nI c) g h (nI c) (d + 1) (nI j) (hr_w E c hb_o j) S := by
  intro d
  induction d with
  | zero =>
    intro j hj
    obtain rfl : j = 64 := hj
    exact br_t (hi_le (by omega) (by omega)) (br_f (by decide) (ya_p72 hc hp))
  | succ d ih =>
    intro j hj
    have h6 : j < 64 := by omega
    exact br_f (hi_gt h6) (br_f (hi_3 hc) (br_f (by decide) ⟨hi_iny hc h6, nm_r (hi_upy hc h6 rfl) (nm_r (nI_1 j) (ih (j + 1) (by omega)))⟩))
theorem ya_pl0 {post : Int32 → SY → Prop} {c : Nat} {g h : Int64} {E S : Nat → Int64} (hc : c < 30) (hp : post (nI c) (g, h, nI (c + 1), hr_w E c (fun _ => 0) 64, vp_updL S c 0)) : ∀ d j, j + d = 64 → wY_plain_16 post 0 (nI c) g h (nI c) (d + 1) (nI j) (hr_w E c (fun _ => 0) j) S := by
  intro d
  induction d with
  | zero =>
    intro j hj
    obtain rfl : j = 64 := hj
    exact br_t (hi_le (by omega) (by omega)) (br_t rfl (ya_p72 hc hp))
  | succ d ih =>
    intro j hj
    have h6 : j < 64 := by omega
    exact br_f (hi_gt h6) (br_f (hi_3 hc) (br_t rfl ⟨hi_iny hc h6, nm_r (hi_upy hc h6 rfl) (nm_r (nI_1 j) (ih (j + 1) (by omega)))⟩))
-- Y: assign
theorem ya_as76 {post : Int32 → SY → Prop} {J : Int32 → (Nat → Int64) → (Nat → Int64) → Prop} {x1 x2 z m : Int32} {c j : Nat} {g h : Int64} {E S : Nat → Int64} {F : Nat → Int64} (hc : c < 30) (hj : j < 64) (hz : (1 : Int64) <<< (z.toInt64 &&& 63) = F j) (hp : J (nI (j + 1)) (hr_w E c F (j + 1)) S) : wY_assign_76 post J x1 x2 (nI c) (nI j) z g h m (hr_w E c F j) S :=
  ⟨hi_iny hc hj, nm_r (hi_upy hc hj hz) (nm_r (nI_1 j) hp)⟩
theorem ya_assign0 {post : Int32 → SY → Prop} {w : Int32} {f c : Nat} {g h : Int64} {E S : Nat → Int64} (hf : f < 512) (hc : c < 30) (hp : post (nI c) (g, h, nI (c + 1), hr_w E c (hv_f w f) 64, vp_updL S c (-1))) : ∀ d j, j + d = 64 → wY_assign_31 post w (nI f) (nI c) g h (nI c) (d + 1) (nI j) (hr_w E c (hv_f w f) j) S := by
  intro d
  induction d with
  | zero =>
    intro j hj
    obtain rfl : j = 64 := hj
    exact br_t (hi_le (by omega) (by omega)) (ya_p72 hc hp)
  | succ d ih =>
    intro j hj
    have h6 : j < 64 := by omega
    refine br_f (hi_gt h6) (ya_worth hf h6 (br_c (fun hw => ⟨by decide, ya_as76 hc h6 ?_ (ih (j + 1) (by omega))⟩) (fun hw => ⟨by decide, ya_as76 hc h6 ?_ (ih (j + 1) (by omega))⟩)))
    · rw [hv_r8 (by omega), hv_8, nI_add]
      unfold hv_f hb_o hv_a
      rw [if_pos hw]
    · rw [hv_d8 (by omega), hv_8, nI_add]
      unfold hv_f hb_o hv_a
      rw [if_neg hw]
-- Y: rows
theorem ya_from0 {post : Int64 → Prop} {q : Int64} {b : Nat} {m : Int32} {g h : Int64} {E S : Nat → Int64} (hb : b < 30) : ∀ d j a, j + d = 64 → post (hb_fr (hr_r E b) q d j a) → wY_from_6 post (nI b) q g h m E S (d + 1) a (nI j) := by
  intro d
  induction d with
  | zero => intro j a hj hp; exact br_t (hi_le (by omega) (by omega)) hp
  | succ d ih =>
    intro j a hj hp
    have h6 : j < 64 := by omega
    refine br_f (hi_gt h6) (ya_in h6 (fun hq => ⟨hi_iny hb h6, ?_⟩) (fun hq => ?_))
    · rw [hi_rdy E hb h6]
      exact nm_e (nm_r (nI_1 j) (ih (j + 1) _ (by omega) (ha_p (P := fun z => post (hb_fr (hr_r E b) q d (j + 1) z)) hq hp)))
    · exact nm_r (nI_1 j) (ih (j + 1) _ (by omega) (ha_n (P := fun z => post (hb_fr (hr_r E b) q d (j + 1) z)) hq hp))
theorem ya_from {post : Int64 → Prop} {q : Int64} {b : Nat} {m : Int32} {g h : Int64} {E S : Nat → Int64} (hb : b < 30) (hp : post (hb_im (hr_r E b) q)) : wpY_from post (g, h, m, E, S) (nI b) q := ⟨65, ya_from0 hb 64 0 0 rfl hp⟩
theorem ya_weak0 {post : Int64 → Prop} {q : Int64} {b : Nat} {m : Int32} {g h : Int64} {E S : Nat → Int64} (hb : b < 30) : ∀ d j a, j + d = 64 → post (hb_fo (hw_c (hr_r E b) q) d j a) → wY_weak_6 post (nI b) q g h m E S (d + 1) a (nI j) := by
  intro d
  induction d with
  | zero => intro j a hj hp; exact br_t (hi_le (by omega) (by omega)) hp
  | succ d ih =>
    intro j a hj hp
    have h6 : j < 64 := by omega
    refine br_f (hi_gt h6) ⟨hi_iny hb h6, ?_⟩
    rw [hi_rdy E hb h6]
    refine ya_part (fun hq => ?_) (fun hq => ?_)
    · exact nm_e (nm_r (nI_1 j) (ih (j + 1) _ (by omega) (ha_p (P := fun z => post (hb_fo (hw_c (hr_r E b) q) d (j + 1) z)) (decide_eq_true hq) hp)))
    · exact nm_r (nI_1 j) (ih (j + 1) _ (by omega) (ha_n (P := fun z => post (hb_fo (hw_c (hr_r E b) q) d (j + 1) z)) (decide_eq_false hq) hp))
theorem ya_weak {post : Int64 → Prop} {q : Int64} {b : Nat} {m : Int32} {g h : Int64} {E S : Nat → Int64} (hb : b < 30) (hp : post (hb_set (hw_c (hr_r E b) q))) : wpY_weak post (g, h, m, E, S) (nI b) q := ⟨65, ya_weak0 hb 64 0 0 rfl hp⟩
-- Y: sequence
def hq_c (E S : Nat → Int64) (a b : Nat) : Nat → Bool := fun s => hb_b (S a) s && hw_c (hr_r E a) (S b) s
theorem hq_c1 {E S : Nat → Int64} {a b s : Nat} (h1 : hb_b (S a) s = true) (h2 : (hr_r E a s &&& (S b ^^^ (-1))) = 0) : hq_c E S a b s = true := by
  unfold hq_c hw_c
  rw [h1, decide_eq_true h2]
  rfl
theorem hq_c2 {E S : Nat → Int64} {a b s : Nat} (h1 : hb_b (S a) s = false) : hq_c E S a b s = false := by
  unfold hq_c
  rw [h1]
  rfl
theorem hq_c3 {E S : Nat → Int64} {a b s : Nat} (h2 : ¬ (hr_r E a s &&& (S b ^^^ (-1))) = 0) : hq_c E S a b s = false := by
  unfold hq_c hw_c
  rw [decide_eq_false h2, Bool.and_false]
theorem ya_seq0 {post : Int32 → SY → Prop} {a b c : Nat} {g h : Int64} {E S : Nat → Int64} (ha : a < c) (hb : b < c) (hc : c < 30) : ∀ d j x, j + d = 64 → post (nI c) (g, h, nI (c + 1), hr_w E c (hq_f E a b) 64, vp_updL S c (hb_fo (hq_c E S a b) d j x)) → wY_sequence_39 post (nI a) (nI b) (nI c) g h (nI c) (d + 1) x (nI j) (hr_w E c (hq_f E a b) j) S := by
  have ha3 : a < 30 := by omega
  have hb3 : b < 30 := by omega
  intro d
  induction d with
  | zero =>
    intro j x hj hp
    obtain rfl : j = 64 := hj
    exact br_t (hi_le (by omega) (by omega)) (ya_p72 hc hp)
  | succ d ih =>
    intro j x hj hp
    have h6 : j < 64 := by omega
    have hp2 : post (nI c) (g, h, nI (c + 1), hr_w E c (hq_f E a b) 64, vp_updL S c (hb_fo (hq_c E S a b) d (j + 1) (if hq_c E S a b j = true then x ||| hb_o j else x))) := hp
    have er : hr_w E c (hq_f E a b) j ((64 * nI a) + nI j).toNatClampNeg = hr_r E a j := by
      rw [hi_rdy (hr_w E c (hq_f E a b) j) ha3 h6, hr_rw ha]
    refine br_f (hi_gt h6) ⟨hi_iny ha3 h6, nm_r er (ya_from hb3 ⟨hi_iny hc h6, nm_r (hi_upy (F := hq_f E a b) hc h6 ?_) ⟨hi_30 ha3, ?_⟩⟩)⟩
    · rw [hr_rw hb]
      rfl
    · rw [hi_c30 ha3, hi_c30 hb3]
      refine ya_in h6 (fun h1 => ⟨hi_30 hb3, ya_part (fun h2 => ?_) (fun h2 => ?_)⟩) (fun h1 => ?_)
      · rw [if_pos (hq_c1 h1 h2)] at hp2
        exact nm_e (nm_r (nI_1 j) (ih (j + 1) _ (by omega) hp2))
      · rw [hq_c3 h2] at hp2
        exact nm_r (nI_1 j) (ih (j + 1) _ (by omega) hp2)
      · rw [hq_c2 h1] at hp2
        exact nm_r (nI_1 j) (ih (j + 1) _ (by omega) hp2)
-- Y: step and good
theorem ya_st31 {post : Int64 → Prop} {b s : Nat} {x g h : Int64} {m : Int32} {E S : Nat → Int64} (hb : b < 30) (hs : s < 64) (hp : post (if hb_b h s = true then x ||| hr_r E b s else x)) : wY_step_31 post (nI b) (nI s) x g h m E S := by
  refine ya_in hs (fun hq => ⟨hi_iny hb hs, ?_⟩) (fun hq => ?_)
  · rw [hi_rdy E hb hs]
    exact nm_e (ha_p (P := post) hq hp)
  · exact ha_n (P := post) hq hp
theorem ya_step {post : Int64 → Prop} {a b s : Nat} {g h : Int64} {m : Int32} {E S : Nat → Int64} (ha : a < 30) (hb : b < 30) (hs : s < 64) (hp : post (hs_t g h E a b s)) : wpY_step post (g, h, m, E, S) (nI a) (nI b) (nI s) := by
  unfold hs_t at hp
  refine ya_in (u := (g, h, m, E, S)) hs (fun hq => ⟨hi_iny ha hs, ?_⟩) (fun hq => ?_)
  · rw [hi_rdy E ha hs]
    rw [if_pos hq] at hp
    exact nm_e (ya_st31 hb hs hp)
  · rw [hq] at hp
    exact ya_st31 hb hs hp
def hg_g (g h : Int64) (S : Nat → Int64) (a b : Nat) : Nat → Bool := fun s => (!hb_b g s || hb_b (S a) s) && (!hb_b h s || hb_b (S b) s)
theorem ya_good26 {A B : Prop} {b s : Nat} {g h : Int64} {m : Int32} {E S : Nat → Int64} (hb : b < 30) (hs : s < 64) (h1 : (!hb_b h s || hb_b (S b) s) = true → B) (h0 : (!hb_b h s || hb_b (S b) s) = false → A) : wY_good_26 (fun r => (r = 0 → A) ∧ (¬ r = 0 → B)) (nI b) (nI s) g h m E S := by
  refine ya_in hs (fun hq => ⟨hi_30 hb, ?_⟩) (fun hq => br_f (by decide) (h1 (by rw [hq]; rfl)))
  rw [hi_c30 hb]
  exact ya_in hs (fun hz => br_f (by decide) (h1 (by rw [hz, Bool.or_true]))) (fun hz => br_t rfl (h0 (by rw [hq, hz]; rfl)))
theorem ya_good {A B : Prop} {a b s : Nat} {g h : Int64} {m : Int32} {E S : Nat → Int64} (ha : a < 30) (hb : b < 30) (hs : s < 64) (h1 : hg_g g h S a b s = true → B) (h0 : hg_g g h S a b s = false → A) : wpY_good (fun r => (r = 0 → A) ∧ (¬ r = 0 → B)) (g, h, m, E, S) (nI a) (nI b) (nI s) := by
  unfold hg_g at h1 h0
  refine ya_in (u := (g, h, m, E, S)) hs (fun hq => ⟨hi_30 ha, ?_⟩) (fun hq => ?_)
  · rw [hi_c30 ha]
    refine ya_in hs (fun hz => ?_) (fun hz => br_t rfl (h0 (by rw [hq, hz]; rfl)))
    rw [hz, Bool.or_true, Bool.true_and] at h1 h0
    exact ya_good26 hb hs h1 h0
  · rw [hq, Bool.not_false, Bool.true_or, Bool.true_and] at h1 h0
    exact ya_good26 hb hs h1 h0
-- Y: choice
def hg_c (g h : Int64) (S : Nat → Int64) (a b : Nat) : Nat → Bool := fun s => hb_b (g ||| h) s && hg_g g h S a b s
theorem hg_c1 {g h : Int64} {S : Nat → Int64} {a b s : Nat} (h1 : hb_b (g ||| h) s = true) (h2 : hg_g g h S a b s = true) : hg_c g h S a b s = true := by
  unfold hg_c; rw [h1, h2]; rfl
theorem hg_c2 {g h : Int64} {S : Nat → Int64} {a b s : Nat} (h1 : hb_b (g ||| h) s = false) : hg_c g h S a b s = false := by
  unfold hg_c; rw [h1]; rfl
theorem hg_c3 {g h : Int64} {S : Nat → Int64} {a b s : Nat} (h2 : hg_g g h S a b s = false) : hg_c g h S a b s = false := by
  unfold hg_c; rw [h2, Bool.and_false]
theorem ya_ch0 {post : Int32 → SY → Prop} {a b c : Nat} {g h : Int64} {E S : Nat → Int64} (ha : a < c) (hb : b < c) (hc : c < 30) : ∀ d j x, j + d = 64 → post (nI c) (g, h, nI (c + 1), hr_w E c (hs_t g h E a b) 64, vp_updL S c (hb_fo (hg_c g h S a b) d j x)) → wY_choice_39 post (nI a) (nI b) (nI c) g h (nI c) (d + 1) x (nI j) (hr_w E c (hs_t g h E a b) j) S := by
  have ha3 : a < 30 := by omega
  have hb3 : b < 30 := by omega
  intro d
  induction d with
  | zero =>
    intro j x hj hp
    obtain rfl : j = 64 := hj
    exact br_t (hi_le (by omega) (by omega)) (ya_p72 hc hp)
  | succ d ih =>
    intro j x hj hp
    have h6 : j < 64 := by omega
    have hp2 : post (nI c) (g, h, nI (c + 1), hr_w E c (hs_t g h E a b) 64, vp_updL S c (hb_fo (hg_c g h S a b) d (j + 1) (if hg_c g h S a b j = true then x ||| hb_o j else x))) := hp
    refine br_f (hi_gt h6) (ya_step ha3 hb3 h6 ⟨hi_iny hc h6, nm_r (hi_upy (F := hs_t g h E a b) hc h6 ?_) ?_⟩)
    · rw [hs_tw ha hb]
    · refine ya_in h6 (fun h1 => ya_good ha3 hb3 h6 (fun h2 => ?_) (fun h2 => ?_)) (fun h1 => ?_)
      · rw [if_pos (hg_c1 h1 h2)] at hp2
        exact nm_e (nm_r (nI_1 j) (ih (j + 1) _ (by omega) hp2))
      · rw [hg_c3 h2] at hp2
        exact nm_r (nI_1 j) (ih (j + 1) _ (by omega) hp2)
      · rw [hg_c2 h1] at hp2
        exact nm_r (nI_1 j) (ih (j + 1) _ (by omega) hp2)
end
section
-- Y: the states met from a state
def hm_r (T : Nat → Int64) : Nat → Nat → Int64 → Int64
  | 0, _, x => x
  | d + 1, j, x => hm_r T d (j + 1) (if hb_b x j = true then x ||| T j else x)
theorem hm_if {T : Nat → Int64} {j : Nat} {x : Int64} {i : Nat} (h : hb_b x i = true) : hb_b (if hb_b x j = true then x ||| T j else x) i = true := by
  by_cases e : hb_b x j = true
  · rw [if_pos e, hb_or, h]; rfl
  · rw [if_neg e]; exact h
theorem hm_up {T : Nat → Int64} : ∀ d j x i, hb_b x i = true → hb_b (hm_r T d j x) i = true
  | 0, _, _, _, h => h
  | d + 1, j, _, i, h => hm_up d (j + 1) _ i (hm_if h)
theorem hm_st {T : Nat → Int64} : ∀ d j x k i, j ≤ k → k < j + d → hb_b x k = true → hb_b (T k) i = true → hb_b (hm_r T d j x) i = true := by
  intro d
  induction d with
  | zero => intro j x k i h1 h2; exact absurd h2 (by omega)
  | succ d ih =>
    intro j x k i h1 h2 hk hi
    by_cases e : j = k
    · subst e
      refine hm_up d (j + 1) _ i ?_
      rw [if_pos hk, hb_or, hi, Bool.or_true]
    · exact ih (j + 1) _ k i (by omega) (by omega) (hm_if hk) hi
theorem hm_in {T : Nat → Int64} {Q : Nat → Prop} (hQ : ∀ k i, Q k → hb_b (T k) i = true → Q i) : ∀ d j x, (∀ i, hb_b x i = true → Q i) → ∀ i, hb_b (hm_r T d j x) i = true → Q i := by
  intro d
  induction d with
  | zero => intro j x h i hi; exact h i hi
  | succ d ih =>
    intro j x h i hi
    refine ih (j + 1) _ (fun k hk => ?_) i hi
    by_cases e : hb_b x j = true
    · rw [if_pos e, hb_or, Bool.or_eq_true] at hk
      exact hk.elim (h k) (hQ j k (h j e))
    · rw [if_neg e] at hk
      exact h k hk
theorem ya_met33 {post : Int64 → Prop} {J : Int64 → Int64 → Int32 → Prop} {a b r : Nat} {g h old : Int64} {m : Int32} {E S : Nat → Int64} (ha : a < 30) (hb : b < 30) : ∀ d j x, j + d = 64 → J (hm_r (hs_t g h E a b) d j x) old (nI (r + 1)) → wY_met_33 post J (nI a) (nI b) old (nI r) g h m E S (d + 1) x (nI j) := by
  intro d
  induction d with
  | zero => intro j x hj hp; exact br_t (hi_le (by omega) (by omega)) (nm_r (nI_1 r) hp)
  | succ d ih =>
    intro j x hj hp
    have h6 : j < 64 := by omega
    have hp2 : J (hm_r (hs_t g h E a b) d (j + 1) (if hb_b x j = true then x ||| hs_t g h E a b j else x)) old (nI (r + 1)) := hp
    refine br_f (hi_gt h6) (ya_in h6 (fun hq => ya_step ha hb h6 ?_) (fun hq => ?_))
    · rw [if_pos hq] at hp2
      exact nm_e (nm_r (nI_1 j) (ih (j + 1) _ (by omega) hp2))
    · rw [hq] at hp2
      exact nm_r (nI_1 j) (ih (j + 1) _ (by omega) hp2)
theorem hi_65 {r : Nat} (h : r < 65) : ¬ (65 : Int32) ≤ nI r := nI_ge (b := 65) h (by decide)
theorem hi_65' {r : Nat} (h : 65 ≤ r) (hr : r < 2 ^ 31) : (65 : Int32) ≤ nI r := nI_le (a := 65) h hr
theorem hm_end {T : Nat → Int64} {s : Nat} {x : Int64} (hs : s < 64) (h1 : hb_b x s = true) (h2 : ∀ k i, hb_b x k = true → hb_b (T k) i = true → hb_b x i = true) (h3 : ∀ i, hb_b x i = true → s = i ∨ hb_b (hk_k T 64 s) i = true) : x = hk_k T 64 s ||| hb_o s := by
  refine hb_ext fun i hi => ?_
  rw [hb_or, hb_ob hs]
  cases hx : hb_b x i with
  | true =>
    rcases h3 i hx with e | e
    · rw [decide_eq_true e, Bool.or_true]
    · rw [e]; rfl
  | false =>
    have hk : hb_b (hk_k T 64 s) i = false := by
      refine ts_nt fun hk => ?_
      have := hk_least (T := T) (Q := fun k i => hb_b x k = true → hb_b x i = true) (fun k i h hk => h2 k i hk h) (fun _ _ _ p q z => q (p z)) 64 s i hk h1
      rw [hx] at this
      exact absurd this (by decide)
    have he : ¬ s = i := by
      intro e
      rw [← e, h1] at hx
      exact absurd hx (by decide)
    rw [hk, decide_eq_false he]
    rfl
theorem ya_met11 {post : Int64 → Prop} {a b s : Nat} {g h : Int64} {m : Int32} {E S : Nat → Int64} (ha : a < 30) (hb : b < 30) (hs : s < 64) (hp : post (hk_k (hs_t g h E a b) 64 s ||| hb_o s)) : ∀ d r x old, r + d = 65 → hb_b x s = true → (∀ i, hb_b old i = true → hb_b x i = true) → (∀ k i, hb_b old k = true → hb_b (hs_t g h E a b k) i = true → hb_b x i = true) → (∀ i, hb_b x i = true → s = i ∨ hb_b (hk_k (hs_t g h E a b) 64 s) i = true) → r ≤ hb_ct (hb_b old) 64 → wY_met_11 post (nI a) (nI b) g h m E S (d + 1) x old (nI r) := by
  intro d
  induction d with
  | zero =>
    intro r x old hr _ _ _ _ hct
    have := hb_ct_le (hb_b old) 64
    exact absurd hct (by omega)
  | succ d ih =>
    intro r x old hr h1 h2 h3 h4 hct
    refine br_f (hi_65 (by omega)) (br_c (fun e => ?_) (fun e => ⟨65, ?_⟩))
    · subst e
      rw [hm_end hs h1 h3 h4]
      exact hp
    · refine ya_met33 ha hb 64 0 x rfl (ih (r + 1) _ x (by omega) (hm_up 64 0 x s h1) (fun i hi => hm_up 64 0 x i hi) (fun k i hk hi => hm_st 64 0 x k i (by omega) (by have := hb_lt hk; omega) hk hi) ?_ ?_)
      · refine hm_in (Q := fun i => s = i ∨ hb_b (hk_k (hs_t g h E a b) 64 s) i = true) (fun k i hk hi => ?_) 64 0 x h4
        rcases hk with rfl | hk
        · exact Or.inr (hk_sub hi 64)
        · exact Or.inr (hk_tr hk (hk_sub hi 64))
      · have := hb_grow h2 e
        omega
theorem ya_met {post : Int64 → Prop} {a b s : Nat} {g h : Int64} {m : Int32} {E S : Nat → Int64} (ha : a < 30) (hb : b < 30) (hs : s < 64) (hp : post (hk_k (hs_t g h E a b) 64 s ||| hb_o s)) : wpY_met post (g, h, m, E, S) (nI a) (nI b) (nI s) := by
  refine nm_r (e' := hb_o s) rfl ⟨66, ya_met11 ha hb hs hp 65 0 (hb_o s) 0 rfl ?_ ?_ ?_ ?_ (Nat.zero_le _)⟩
  · rw [hb_ob hs]; exact decide_eq_true rfl
  · intro i hi; rw [hb_0] at hi; exact absurd hi (by decide)
  · intro k i hk; rw [hb_0] at hk; exact absurd hk (by decide)
  · intro i hi
    rw [hb_ob hs] at hi
    exact Or.inl (of_decide_eq_true hi)
-- Y: the resting states
def hn_r (C : Nat → Bool) (T : Nat → Int64) : Nat → Nat → Int64 → Int64
  | 0, _, x => x
  | d + 1, j, x => hn_r C T d (j + 1) (if (C j && decide ((T j &&& (x ^^^ (-1))) = 0)) = true then x ||| hb_o j else x)
theorem hn_if {C : Nat → Bool} {T : Nat → Int64} {j : Nat} {x : Int64} {i : Nat} (h : hb_b x i = true) : hb_b (if (C j && decide ((T j &&& (x ^^^ (-1))) = 0)) = true then x ||| hb_o j else x) i = true := by
  by_cases e : (C j && decide ((T j &&& (x ^^^ (-1))) = 0)) = true
  · rw [if_pos e, hb_or, h]; rfl
  · rw [if_neg e]; exact h
theorem hn_up {C : Nat → Bool} {T : Nat → Int64} : ∀ d j x i, hb_b x i = true → hb_b (hn_r C T d j x) i = true
  | 0, _, _, _, h => h
  | d + 1, j, _, i, h => hn_up d (j + 1) _ i (hn_if h)
theorem hn_st {C : Nat → Bool} {T : Nat → Int64} : ∀ d j x k, j + d ≤ 64 → j ≤ k → k < j + d → C k = true → (∀ i, hb_b (T k) i = true → hb_b x i = true) → hb_b (hn_r C T d j x) k = true := by
  intro d
  induction d with
  | zero => intro j x k _ h1 h2; exact absurd h2 (by omega)
  | succ d ih =>
    intro j x k hd h1 h2 hk hi
    by_cases e : j = k
    · subst e
      refine hn_up d (j + 1) _ j ?_
      rw [if_pos (by rw [hk, decide_eq_true (hb_sub.mpr hi)]; rfl), hb_or, hb_ob (by omega), decide_eq_true rfl, Bool.or_true]
    · exact ih (j + 1) _ k (by omega) (by omega) (by omega) hk (fun i h => hn_if (hi i h))
theorem hn_in {C : Nat → Bool} {T : Nat → Int64} {Q : Nat → Prop} (hQ : ∀ k, k < 64 → C k = true → (∀ i, hb_b (T k) i = true → Q i) → Q k) : ∀ d j x, j + d ≤ 64 → (∀ i, hb_b x i = true → Q i) → ∀ i, hb_b (hn_r C T d j x) i = true → Q i := by
  intro d
  induction d with
  | zero => intro j x _ h i hi; exact h i hi
  | succ d ih =>
    intro j x hd h i hi
    refine ih (j + 1) _ (by omega) (fun k hk => ?_) i hi
    by_cases e : (C j && decide ((T j &&& (x ^^^ (-1))) = 0)) = true
    · rw [if_pos e, hb_or, Bool.or_eq_true, hb_ob (by omega)] at hk
      rw [Bool.and_eq_true] at e
      rcases hk with hk | hk
      · exact h k hk
      · obtain rfl := of_decide_eq_true hk
        exact hQ j (by omega) e.1 (fun i hi => h i (hb_sub.mp (of_decide_eq_true e.2) i hi))
    · rw [if_neg e] at hk
      exact h k hk
theorem ya_rs44 {post : Int64 → Prop} {J : Int64 → Int64 → Int32 → Prop} {a b r : Nat} {g h old : Int64} {m : Int32} {E S : Nat → Int64} (ha : a < 30) (hb : b < 30) : ∀ d j x, j + d = 64 → J (hn_r (hg_c g h S a b) (hs_t g h E a b) d j x) old (nI (r + 1)) → wY_resting_44 post J (nI a) (nI b) old (nI r) g h m E S (d + 1) x (nI j) := by
  intro d
  induction d with
  | zero => intro j x hj hp; exact br_t (hi_le (by omega) (by omega)) (nm_r (nI_1 r) hp)
  | succ d ih =>
    intro j x hj hp
    have h6 : j < 64 := by omega
    have hp2 : J (hn_r (hg_c g h S a b) (hs_t g h E a b) d (j + 1) (if (hg_c g h S a b j && decide ((hs_t g h E a b j &&& (x ^^^ (-1))) = 0)) = true then x ||| hb_o j else x)) old (nI (r + 1)) := hp
    refine br_f (hi_gt h6) (ya_step ha hb h6 (ya_in h6 (fun h1 => ya_good ha hb h6 (fun h2 => ya_part (fun h3 => ?_) (fun h3 => ?_)) (fun h2 => ?_)) (fun h1 => ?_)))
    · rw [if_pos (by rw [hg_c1 h1 h2, decide_eq_true h3]; rfl)] at hp2
      exact nm_e (nm_r (nI_1 j) (ih (j + 1) _ (by omega) hp2))
    · rw [decide_eq_false h3, Bool.and_false] at hp2
      exact nm_r (nI_1 j) (ih (j + 1) _ (by omega) hp2)
    · rw [hg_c3 h2] at hp2
      exact nm_r (nI_1 j) (ih (j + 1) _ (by omega) hp2)
    · rw [hg_c2 h1] at hp2
      exact nm_r (nI_1 j) (ih (j + 1) _ (by omega) hp2)
-- the pure facts that tie both sides
def hu_U (g h : Int64) (S : Nat → Int64) (a b : Nat) : Nat → Prop := fun s => hb_b (hu_u g h S a b) s = true
theorem hu_g {g h : Int64} {S : Nat → Int64} {a b s : Nat} (hs : s < 64) : hb_b (hu_u g h S a b) s = !(hg_g g h S a b s) := by
  unfold hu_u hg_g
  rw [hb_or, hb_and, hb_and, hb_not hs, hb_not hs]
  cases hb_b g s <;> cases hb_b h s <;> cases hb_b (S a) s <;> cases hb_b (S b) s <;> rfl
theorem hu_cn {g h : Int64} {S : Nat → Int64} {a b s : Nat} (hs : s < 64) (hc : hg_c g h S a b s = true) : ¬ hu_U g h S a b s := by
  unfold hg_c at hc
  rw [Bool.and_eq_true] at hc
  unfold hu_U
  rw [hu_g hs, hc.2]
  decide
theorem hu_nc {g h : Int64} {S : Nat → Int64} {a b s : Nat} (hs : s < 64) (h1 : hb_b (g ||| h) s = true) (hu : ¬ hu_U g h S a b s) : hg_c g h S a b s = true := by
  refine hg_c1 h1 (ts_nf fun z => hu ?_)
  unfold hu_U
  rw [hu_g hs, z]
  rfl
theorem hu_no {g h : Int64} {S : Nat → Int64} {a b s : Nat} (h1 : hb_b (g ||| h) s = false) : ¬ hu_U g h S a b s := by
  rw [hb_or, Bool.or_eq_false_iff] at h1
  unfold hu_U hu_u
  rw [hb_or, hb_and, hb_and, h1.1, h1.2, Bool.false_and, Bool.false_and]
  decide
theorem hu_S0 {g h : Int64} {E S : Nat → Int64} {a b s : Nat} (h1 : hb_b (g ||| h) s = false) : hk_S (hs_t g h E a b) (hu_U g h S a b) s := by
  refine hk_S_in (hu_no h1) fun j hj => ?_
  rw [hb_or, Bool.or_eq_false_iff] at h1
  rw [hs_t0 h1.1 h1.2] at hj
  exact absurd hj (by decide)
theorem ya_rs24 {post : Int64 → Prop} {a b : Nat} {g h V : Int64} {m : Int32} {E S : Nat → Int64} (ha : a < 30) (hb : b < 30) (hV : ∀ i, i < 64 → (hb_b V i = true ↔ hk_S (hs_t g h E a b) (hu_U g h S a b) i)) (hp : post V) : ∀ d r x old, r + d = 65 → (∀ i, hb_b x i = true → hk_S (hs_t g h E a b) (hu_U g h S a b) i) → (∀ i, i < 64 → hb_b (g ||| h) i = false → hb_b x i = true) → ((r = 0 ∧ ¬ x = old) ∨ ((∀ i, hb_b old i = true → hb_b x i = true) ∧ (∀ k, k < 64 → hg_c g h S a b k = true → (∀ i, hb_b (hs_t g h E a b k) i = true → hb_b old i = true) → hb_b x k = true) ∧ r ≤ hb_ct (hb_b old) 64 + 1)) → wY_resting_24 post (nI a) (nI b) g h m E S (d + 1) x old (nI r) := by
  have fin : ∀ x : Int64, (∀ i, hb_b x i = true → hk_S (hs_t g h E a b) (hu_U g h S a b) i) → (∀ i, i < 64 → hb_b (g ||| h) i = false → hb_b x i = true) → (∀ k, k < 64 → hg_c g h S a b k = true → (∀ i, hb_b (hs_t g h E a b k) i = true → hb_b x i = true) → hb_b x k = true) → post x := by
    intro x h1 h2 h3
    have e : x = V := by
      refine hb_ext fun i hi => ?_
      cases hv : hb_b V i with
      | false =>
        refine ts_nt fun hx => ?_
        rw [(hV i hi).mpr (h1 i hx)] at hv
        exact absurd hv (by decide)
      | true =>
        refine hk_S_out (T := hs_t g h E a b) (U := hu_U g h S a b) (D := fun i => hb_b x i = true) (fun s hs hu ht => ?_) 65 i ?_ hi ((hV i hi).mp hv)
        · cases hg : hb_b (g ||| h) s with
          | false => exact h2 s hs hg
          | true => exact h3 s hs (hu_nc hs hg hu) ht
        · have := hb_ct_le (hb_b (hk_k (hs_t g h E a b) 64 i)) 64
          omega
    rw [e]
    exact hp
  intro d
  induction d with
  | zero =>
    intro r x old hr h1 h2 h3
    refine br_t (hi_65' (by omega) (by omega)) ?_
    rcases h3 with h3 | ⟨h3, h4, h5⟩
    · exact absurd h3.1 (by omega)
    · by_cases e : x = old
      · subst e
        exact fin x h1 h2 h4
      · have z1 := hb_grow h3 e
        have z2 := hb_ct_le (hb_b x) 64
        exact absurd h5 (by omega)
  | succ d ih =>
    intro r x old hr h1 h2 h3
    refine br_f (hi_65 (by omega)) (br_c (fun e => ?_) (fun e => ⟨65, ?_⟩))
    · rcases h3 with h3 | ⟨h3, h4, h5⟩
      · exact absurd e h3.2
      · subst e
        exact fin x h1 h2 h4
    · refine ya_rs44 ha hb 64 0 x rfl (ih (r + 1) _ x (by omega) ?_ (fun i hi hg => hn_up 64 0 x i (h2 i hi hg)) (Or.inr ⟨fun i hi => hn_up 64 0 x i hi, fun k hk hc ht => hn_st 64 0 x k (by omega) (by omega) (by omega) hc ht, ?_⟩))
      · exact hn_in (fun k hk hc ht => hk_S_in (hu_cn hk hc) ht) 64 0 x (by omega) h1
      · rcases h3 with h3 | ⟨h3, h4, h5⟩
        · omega
        · have := hb_grow h3 e
          omega
theorem hb_ne (x : Int64) : ¬ x = x ^^^ (-1) := by
  intro e
  have t := congrArg (fun z => hb_b z 0) e
  simp only [hb_not (show 0 < 64 by decide)] at t
  cases h : hb_b x 0 <;> rw [h] at t <;> exact absurd t (by decide)
theorem ya_rs {post : Int64 → Prop} {a b : Nat} {g h V : Int64} {m : Int32} {E S : Nat → Int64} (ha : a < 30) (hb : b < 30) (hV : ∀ i, i < 64 → (hb_b V i = true ↔ hk_S (hs_t g h E a b) (hu_U g h S a b) i)) (hp : post V) : wpY_resting post (g, h, m, E, S) (nI a) (nI b) := by
  refine nm_e (nm_e ⟨66, ya_rs24 ha hb hV hp 65 0 _ _ rfl (fun i hi => ?_) (fun i hi hg => ?_) (Or.inl ⟨rfl, hb_ne _⟩)⟩)
  · rw [hb_not (hb_lt hi)] at hi
    exact hu_S0 (Bool.not_eq_true' _ ▸ hi)
  · rw [hb_not hi, hg]
    rfl
-- X's value of sure
def hl_q (K : Nat → Int64) (u : Int64) : Int64 := hb_set (hk_rc K) ||| u
def hl_v (K : Nat → Int64) (u : Int64) : Int64 := hb_set (hw_c K (hl_q K u ^^^ (-1))) &&& (hl_q K u ^^^ (-1))
theorem hl_qb {K : Nat → Int64} {u : Int64} {i : Nat} (hi : i < 64) : hb_b (hl_q K u ^^^ (-1)) i = true ↔ (¬ hb_b (K i) i = true ∧ ¬ hb_b u i = true) := by
  unfold hl_q
  rw [hb_not hi, hb_or, hb_set_b hi]
  unfold hk_rc
  cases hb_b (K i) i <;> cases hb_b u i <;> decide
theorem hl_vb {T : Nat → Int64} {u : Int64} {i : Nat} (hi : i < 64) : hb_b (hl_v (hk_k T 64) u) i = true ↔ hk_S T (fun s => hb_b u s = true) i := by
  unfold hl_v
  rw [hb_and, Bool.and_eq_true, hb_set_b hi, hl_qb hi]
  unfold hw_c hk_S
  rw [decide_eq_true_iff, hb_sub]
  constructor
  · intro z
    exact ⟨z.2.1, z.2.2, fun j hj => (hl_qb (hb_lt hj)).mp (z.1 j hj)⟩
  · intro z
    exact ⟨fun j hj => (hl_qb (hb_lt hj)).mpr (z.2.2 j hj), z.1, z.2.1⟩
-- Y: loop
theorem ya_loop0 {post : Int32 → SY → Prop} {a b c : Nat} {g h : Int64} {E S : Nat → Int64} (ha : a < c) (hb : b < c) (hc : c < 30) (hp : post (nI c) (g, h, nI (c + 1), hr_w E c (hk_o (hk_k (hs_t g h E a b) 64) ((g ||| h) ^^^ (-1))) 64, vp_updL S c (hl_v (hk_k (hs_t g h E a b) 64) (hu_u g h S a b)))) : ∀ d j, j + d = 64 → wY_loop_36 post (nI a) (nI b) (nI c) g h (nI c) (d + 1) (nI j) (hr_w E c (hk_o (hk_k (hs_t g h E a b) 64) ((g ||| h) ^^^ (-1))) j) S := by
  have ha3 : a < 30 := by omega
  have hb3 : b < 30 := by omega
  intro d
  induction d with
  | zero =>
    intro j hj
    obtain rfl : j = 64 := hj
    refine br_t (hi_le (by omega) (by omega)) (ya_rs (V := hl_v (hk_k (hs_t g h E a b) 64) (hu_u g h S a b)) ha3 hb3 (fun i hi => ?_) (ya_p72 hc hp))
    rw [hs_tw ha hb]
    exact hl_vb hi
  | succ d ih =>
    intro j hj
    have h6 : j < 64 := by omega
    refine br_f (hi_gt h6) (ya_met ha3 hb3 h6 ⟨hi_iny hc h6, nm_r (hi_upy (F := hk_o (hk_k (hs_t g h E a b) 64) ((g ||| h) ^^^ (-1))) hc h6 ?_) (nm_r (nI_1 j) (ih (j + 1) (by omega)))⟩)
    rw [hs_tw ha hb]
    rfl
end
section
-- refusals
theorem xg_good {P : Int32 → Prop} {a c : Nat} {g h : Int64} {E S : Nat → Int64} (ha : a < c) (hc : c ≤ 30) (hp : P 1) : wpX_isGood P (nI c, g, h, E, S) (nI a) := br_f (nI_pos (by omega)) (br_f (nI_ge ha (by omega)) hp)
theorem xg_bad {P : Int32 → Prop} {v m : Int32} {g h : Int64} {E S : Nat → Int64} (hv : v < 0 ∨ m ≤ v) (hp : P 0) : wpX_isGood P (m, g, h, E, S) v := br_c (fun _ => hp) (fun z => br_t (hv.elim (fun w => absurd w z) id) hp)
theorem yg_good {P : Int32 → Prop} {a c : Nat} {g h : Int64} {E S : Nat → Int64} (ha : a < c) (hc : c ≤ 30) (hp : P 0) : wpY_bad P (g, h, nI c, E, S) (nI a) := br_f (nI_pos (by omega)) (br_f (nI_ge ha (by omega)) (br_t (nI_le (b := 29) (by omega) (by decide)) hp))
theorem yg_bad {P : Int32 → Prop} {v m : Int32} {g h : Int64} {E S : Nat → Int64} (hv : v < 0 ∨ m ≤ v) (hp : P 1) : wpY_bad P (g, h, m, E, S) v := br_c (fun _ => hp) (fun z => br_t (hv.elim (fun w => absurd w z) id) hp)
theorem xg_free {P : Int32 → Prop} {c : Nat} {g h : Int64} {E S : Nat → Int64} (hc : c < 30) (hp : P 0) : wpX_isFull P (nI c, g, h, E, S) := br_t (nI_lt (b := 30) hc (by decide)) hp
theorem xg_full {P : Int32 → Prop} {g h : Int64} {E S : Nat → Int64} (hp : P 1) : wpX_isFull P (nI 30, g, h, E, S) := br_f (by decide) hp
theorem yg_free {P : Int32 → Prop} {c : Nat} {g h : Int64} {E S : Nat → Int64} (hc : c < 30) (hp : P 0) : wpY_full P (g, h, nI c, E, S) := br_t (nI_le (b := 29) (by omega) (by decide)) hp
theorem yg_full {P : Int32 → Prop} {g h : Int64} {E S : Nat → Int64} (hp : P 1) : wpY_full P (g, h, nI 30, E, S) := br_f (by decide) hp
theorem vg_or (v : Int32) {c : Nat} (hc : c ≤ 30) : (v < 0 ∨ nI c ≤ v) ∨ ∃ a, a < c ∧ v = nI a := by
  rcases pk_ix v (n := c) (by omega) with h | h | h
  · exact Or.inl (Or.inl h)
  · exact Or.inl (Or.inr h)
  · exact Or.inr h
-- values that both sides reach by other ways
theorem hq_eq {E S : Nat → Int64} {a b : Nat} : S a &&& hb_set (hw_c (hr_r E a) (S b)) = hb_set (hq_c E S a b) := by
  refine hb_ext fun i hi => ?_
  rw [hb_and, hb_set_b hi, hb_set_b hi]
  rfl
theorem hg_eq {g h : Int64} {S : Nat → Int64} {a b : Nat} : (g ||| h) &&& (hu_u g h S a b ^^^ (-1)) = hb_set (hg_c g h S a b) := by
  refine hb_ext fun i hi => ?_
  rw [hb_and, hb_set_b hi, hb_not hi, hu_g hi, Bool.not_not]
  rfl
theorem hl_rr {E K : Nat → Int64} {c s : Nat} (hs : s < 64) : hr_r (hr_w E c K 64) c s = K s := by
  unfold hr_r
  rw [if_pos hs]
  exact hr_wv hs
theorem hb_setc {C D : Nat → Bool} (h : ∀ s, s < 64 → C s = D s) : hb_set C = hb_set D := by
  refine hb_ext fun i hi => ?_
  rw [hb_set_b hi, hb_set_b hi, h i hi]
theorem hl_rc {E K : Nat → Int64} {c : Nat} : hb_set (hk_rc (hr_r (hr_w E c K 64) c)) = hb_set (hk_rc K) := by
  refine hb_setc fun s hs => ?_
  unfold hk_rc
  rw [hl_rr hs]
theorem hl_wc {E K : Nat → Int64} {c : Nat} {q : Int64} : hb_set (hw_c (hr_r (hr_w E c K 64) c) q) = hb_set (hw_c K q) := by
  refine hb_setc fun s hs => ?_
  unfold hw_c
  rw [hl_rr hs]
-- refines
def ho_k (E : Nat → Int64) (a b s : Nat) : Prop := (hr_r E b s &&& (hr_r E a s ^^^ (-1))) = 0
theorem xa_ref0 {post : Int32 → Prop} {a b : Nat} {m : Int32} {g h : Int64} {E S : Nat → Int64} (ha : a < 30) (hb : b < 30) (h1 : (∀ s, s < 64 → hb_b (S a) s = true → ho_k E a b s) → post 1) (h0 : ¬ (∀ s, s < 64 → hb_b (S a) s = true → ho_k E a b s) → post 0) : ∀ d j, j + d = 64 → (∀ s, s < j → hb_b (S a) s = true → ho_k E a b s) → wX_refines_56 post (nI a) (nI (64 * a)) (nI (64 * b)) m g h E S (d + 1) (nI j) := by
  intro d
  induction d with
  | zero =>
    intro j hj hd
    obtain rfl : j = 64 := hj
    exact br_t (hi_le (by omega) (by omega)) (h1 hd)
  | succ d ih =>
    intro j hj hd
    have h6 : j < 64 := by omega
    refine br_f (hi_gt h6) ⟨hi_in hb h6, hi_in ha h6, nm_r (by rw [hi_rd E ha h6, hi_rd E hb h6]) ⟨hi_30 ha, ?_⟩⟩
    rw [hi_c30 ha]
    refine xa_has h6 (fun hq => br_c (fun hz => nm_r (nI_1 j) (ih (j + 1) (by omega) fun s hs hS => ?_)) (fun hz => h0 fun z => hz (z j h6 hq))) (fun hq => nm_r (nI_1 j) (ih (j + 1) (by omega) fun s hs hS => ?_))
    · by_cases e : s = j
      · subst e; exact hz
      · exact hd s (by omega) hS
    · by_cases e : s = j
      · subst e; rw [hq] at hS; exact absurd hS (by decide)
      · exact hd s (by omega) hS
theorem ya_ref0 {post : Int32 → Prop} {a b : Nat} {m : Int32} {g h : Int64} {E S : Nat → Int64} (ha : a < 30) (hb : b < 30) (h1 : (∀ s, s < 64 → hb_b (S a) s = true → hb_b (S b) s = true ∧ ho_k E a b s) → post 1) (h0 : ¬ (∀ s, s < 64 → hb_b (S a) s = true → hb_b (S b) s = true ∧ ho_k E a b s) → post 0) : ∀ d j, j + d = 64 → (∀ s, s < j → hb_b (S a) s = true → hb_b (S b) s = true ∧ ho_k E a b s) → wY_refines_20 post (nI a) (nI b) g h m E S (d + 1) (nI j) := by
  intro d
  induction d with
  | zero =>
    intro j hj hd
    obtain rfl : j = 64 := hj
    exact br_t (hi_le (by omega) (by omega)) (h1 hd)
  | succ d ih =>
    intro j hj hd
    have h6 : j < 64 := by omega
    refine br_f (hi_gt h6) ⟨hi_30 ha, ?_⟩
    rw [hi_c30 ha, hi_c30 hb, hi_rdy E ha h6, hi_rdy E hb h6]
    refine ya_in h6 (fun hq => ⟨hi_30 hb, ya_in h6 (fun hw => ⟨hi_iny hb h6, hi_iny ha h6, ya_part (fun hz => nm_r (nI_1 j) (ih (j + 1) (by omega) fun s hs hS => ?_)) (fun hz => h0 fun z => hz (z j h6 hq).2)⟩) (fun hw => h0 fun z => ?_)⟩) (fun hq => nm_r (nI_1 j) (ih (j + 1) (by omega) fun s hs hS => ?_))
    · by_cases e : s = j
      · subst e; exact ⟨hw, hz⟩
      · exact hd s (by omega) hS
    · have := (z j h6 hq).1
      rw [hw] at this
      exact absurd this (by decide)
    · by_cases e : s = j
      · subst e; rw [hq] at hS; exact absurd hS (by decide)
      · exact hd s (by omega) hS
-- settled
def ho_s (E S : Nat → Int64) (a : Nat) (s : Nat) : Prop := hb_b (S a) s = true → hb_sz (hr_r E a s) 64 0 0 = 1
theorem xa_set0 {post : Int32 → Prop} {a : Nat} {m : Int32} {g h : Int64} {E S : Nat → Int64} (ha : a < 30) (h1 : (∀ s, s < 64 → ho_s E S a s) → post 1) (h0 : ¬ (∀ s, s < 64 → ho_s E S a s) → post 0) : ∀ d j, j + d = 64 → (∀ s, s < j → ho_s E S a s) → wX_settled_17 post (nI a) (nI (64 * a)) m g h E S (d + 1) (nI j) := by
  intro d
  induction d with
  | zero =>
    intro j hj hd
    obtain rfl : j = 64 := hj
    exact br_t (hi_le (by omega) (by omega)) (h1 hd)
  | succ d ih =>
    intro j hj hd
    have h6 : j < 64 := by omega
    refine br_f (hi_gt h6) ⟨hi_in ha h6, ?_⟩
    rw [hi_rd E ha h6, hi_c30 ha]
    refine xa_size ⟨hi_30 ha, ?_⟩
    refine xa_has h6 (fun hq => br_c (fun hz => nm_r (nI_1 j) (ih (j + 1) (by omega) fun s hs => ?_)) (fun hz => h0 fun z => hz (z j h6 hq))) (fun hq => nm_r (nI_1 j) (ih (j + 1) (by omega) fun s hs => ?_))
    · by_cases e : s = j
      · subst e; exact fun _ => hz
      · exact hd s (by omega)
    · by_cases e : s = j
      · subst e; exact fun hS => by rw [hq] at hS; exact absurd hS (by decide)
      · exact hd s (by omega)
theorem ya_set0 {post : Int32 → Prop} {a : Nat} {m : Int32} {g h : Int64} {E S : Nat → Int64} (ha : a < 30) (h1 : (∀ s, s < 64 → ho_s E S a s) → post 1) (h0 : ¬ (∀ s, s < 64 → ho_s E S a s) → post 0) : ∀ d j, j + d = 64 → (∀ s, s < j → ho_s E S a s) → wY_settled_12 post (nI a) g h m E S (d + 1) (nI j) := by
  intro d
  induction d with
  | zero =>
    intro j hj hd
    obtain rfl : j = 64 := hj
    exact br_t (hi_le (by omega) (by omega)) (h1 hd)
  | succ d ih =>
    intro j hj hd
    have h6 : j < 64 := by omega
    refine br_f (hi_gt h6) ⟨hi_30 ha, ?_⟩
    rw [hi_rdy E ha h6, hi_c30 ha]
    refine ya_in h6 (fun hq => ⟨hi_iny ha h6, ya_size (br_c (fun hz => nm_r (nI_1 j) (ih (j + 1) (by omega) fun s hs => ?_)) (fun hz => h0 fun z => hz (z j h6 hq)))⟩) (fun hq => nm_r (nI_1 j) (ih (j + 1) (by omega) fun s hs => ?_))
    · by_cases e : s = j
      · subst e; exact fun _ => hz
      · exact hd s (by omega)
    · by_cases e : s = j
      · subst e; exact fun hS => by rw [hq] at hS; exact absurd hS (by decide)
      · exact hd s (by omega)
-- widest
def hz_w (R : Nat → Int64) : Nat → Nat → Int32 → Int32
  | 0, _, x => x
  | d + 1, j, x => hz_w R d (j + 1) (if hb_sz (R j) 64 0 0 ≤ x then x else hb_sz (R j) 64 0 0)
theorem xa_wid0 {post : Int32 → Prop} {a : Nat} {m : Int32} {g h : Int64} {E S : Nat → Int64} (ha : a < 30) : ∀ d j x, j + d = 64 → post (hz_w (hr_r E a) d j x) → wX_widest_20 post (nI (64 * a)) m g h E S (d + 1) x (nI j) := by
  intro d
  induction d with
  | zero => intro j x hj hp; exact br_t (hi_le (by omega) (by omega)) hp
  | succ d ih =>
    intro j x hj hp
    have h6 : j < 64 := by omega
    have hp2 : post (hz_w (hr_r E a) d (j + 1) (if hb_sz (hr_r E a j) 64 0 0 ≤ x then x else hb_sz (hr_r E a j) 64 0 0)) := hp
    refine br_f (hi_gt h6) ⟨hi_in ha h6, ?_⟩
    rw [hi_rd E ha h6]
    refine xa_size (br_c (fun hz => ?_) (fun hz => ?_))
    · rw [if_pos hz] at hp2
      exact nm_r (nI_1 j) (ih (j + 1) _ (by omega) hp2)
    · rw [if_neg hz] at hp2
      exact nm_r (nI_1 j) (ih (j + 1) _ (by omega) hp2)
theorem ya_wid0 {post : Int32 → Prop} {a : Nat} {m : Int32} {g h : Int64} {E S : Nat → Int64} (ha : a < 30) : ∀ d j x, j + d = 64 → post (hz_w (hr_r E a) d j x) → wY_widest_14 post (nI a) g h m E S (d + 1) x (nI j) := by
  intro d
  induction d with
  | zero => intro j x hj hp; exact br_t (hi_le (by omega) (by omega)) hp
  | succ d ih =>
    intro j x hj hp
    have h6 : j < 64 := by omega
    have hp2 : post (hz_w (hr_r E a) d (j + 1) (if hb_sz (hr_r E a j) 64 0 0 ≤ x then x else hb_sz (hr_r E a j) 64 0 0)) := hp
    refine br_f (hi_gt h6) ⟨hi_iny ha h6, ?_⟩
    rw [hi_rdy E ha h6]
    refine ya_size (br_c (fun hz => ?_) (fun hz => ?_))
    · rw [if_pos hz] at hp2
      exact nm_r (nI_1 j) (ih (j + 1) _ (by omega) hp2)
    · rw [if_neg hz] at hp2
      exact nm_r (nI_1 j) (ih (j + 1) _ (by omega) hp2)
-- the writing loops from their heads
theorem xb_skip {post : Int32 → SX → Prop} {c : Nat} {g h : Int64} {E S : Nat → Int64} (hc : c < 30) (hp : post (nI c) (nI (c + 1), g, h, hr_w E c hb_o 64, vp_updL S c (-1))) : wX_skip_19 post (nI (64 * c)) (nI c) g h 65 0 E S := by
  have x := xa_skip0 hc hp 64 0 rfl
  rw [hr_w0] at x
  exact x
theorem xb_fail {post : Int32 → SX → Prop} {c : Nat} {g h : Int64} {E S : Nat → Int64} (hc : c < 30) (hp : post (nI c) (nI (c + 1), g, h, hr_w E c (fun _ => 0) 64, vp_updL S c 0)) : wX_fail_19 post (nI (64 * c)) (nI c) g h 65 0 E S := by
  have x := xa_fail0 hc hp 64 0 rfl
  rw [hr_w0] at x
  exact x
theorem xb_assign {post : Int32 → SX → Prop} {w : Int32} {f c : Nat} {g h : Int64} {E S : Nat → Int64} (hf : f < 512) (hc : c < 30) (hp : post (nI c) (nI (c + 1), g, h, hr_w E c (hv_f w f) 64, vp_updL S c (-1))) : wX_assign_30 post w (nI f) (nI (64 * c)) (nI c) g h 65 0 E S := by
  have x := xa_assign0 hf hc hp 64 0 rfl
  rw [hr_w0] at x
  exact x
theorem xb_seq {post : Int32 → SX → Prop} {a b c : Nat} {g h : Int64} {E S : Nat → Int64} (ha : a < c) (hb : b < c) (hc : c < 30) (hp : post (nI c) (nI (c + 1), g, h, hr_w E c (hq_f E a b) 64, vp_updL S c (hb_set (hq_c E S a b)))) : wX_sequence_45 post (nI a) (nI b) (nI (64 * c)) (nI (64 * a)) (nI c) g h 65 0 E S := by
  rw [← hq_eq] at hp
  have x := xa_seq0 ha hb hc hp 64 0 rfl
  rw [hr_w0] at x
  exact x
theorem yb_skip {post : Int32 → SY → Prop} {c : Nat} {g h : Int64} {E S : Nat → Int64} (hc : c < 30) (hp : post (nI c) (g, h, nI (c + 1), hr_w E c hb_o 64, vp_updL S c (-1))) : wY_plain_16 post 1 (nI c) g h (nI c) 65 0 E S := by
  have x := ya_pl1 hc hp 64 0 rfl
  rw [hr_w0] at x
  exact x
theorem yb_fail {post : Int32 → SY → Prop} {c : Nat} {g h : Int64} {E S : Nat → Int64} (hc : c < 30) (hp : post (nI c) (g, h, nI (c + 1), hr_w E c (fun _ => 0) 64, vp_updL S c 0)) : wY_plain_16 post 0 (nI c) g h (nI c) 65 0 E S := by
  have x := ya_pl0 hc hp 64 0 rfl
  rw [hr_w0] at x
  exact x
theorem yb_assign {post : Int32 → SY → Prop} {w : Int32} {f c : Nat} {g h : Int64} {E S : Nat → Int64} (hf : f < 512) (hc : c < 30) (hp : post (nI c) (g, h, nI (c + 1), hr_w E c (hv_f w f) 64, vp_updL S c (-1))) : wY_assign_31 post w (nI f) (nI c) g h (nI c) 65 0 E S := by
  have x := ya_assign0 hf hc hp 64 0 rfl
  rw [hr_w0] at x
  exact x
theorem yb_seq {post : Int32 → SY → Prop} {a b c : Nat} {g h : Int64} {E S : Nat → Int64} (ha : a < c) (hb : b < c) (hc : c < 30) (hp : post (nI c) (g, h, nI (c + 1), hr_w E c (hq_f E a b) 64, vp_updL S c (hb_set (hq_c E S a b)))) : wY_sequence_39 post (nI a) (nI b) (nI c) g h (nI c) 65 0 0 E S := by
  have x := ya_seq0 ha hb hc 64 0 0 rfl hp
  rw [hr_w0] at x
  exact x
theorem yb_ch {post : Int32 → SY → Prop} {a b c : Nat} {g h : Int64} {E S : Nat → Int64} (ha : a < c) (hb : b < c) (hc : c < 30) (hp : post (nI c) (g, h, nI (c + 1), hr_w E c (hs_t g h E a b) 64, vp_updL S c (hb_set (hg_c g h S a b)))) : wY_choice_39 post (nI a) (nI b) (nI c) g h (nI c) 65 0 0 E S := by
  have x := ya_ch0 ha hb hc 64 0 0 rfl hp
  rw [hr_w0] at x
  exact x
theorem yb_loop {post : Int32 → SY → Prop} {a b c : Nat} {g h : Int64} {E S : Nat → Int64} (ha : a < c) (hb : b < c) (hc : c < 30) (hp : post (nI c) (g, h, nI (c + 1), hr_w E c (hk_o (hk_k (hs_t g h E a b) 64) ((g ||| h) ^^^ (-1))) 64, vp_updL S c (hl_v (hk_k (hs_t g h E a b) 64) (hu_u g h S a b)))) : wY_loop_36 post (nI a) (nI b) (nI c) g h (nI c) 65 0 E S := by
  have x := ya_loop0 ha hb hc hp 64 0 rfl
  rw [hr_w0] at x
  exact x
end
section
/-- both keep the same guards, the same count of programs, the same ends and the same sure states -/
def i_Rel (_ : Nat) (u : SX) (v : SY) : Prop := ∃ (c : Nat) (g h : Int64) (E S : Nat → Int64), c ≤ 30 ∧ u = (nI c, g, h, E, S) ∧ v = (g, h, nI c, E, S)
theorem i_up {k : Nat} {u : SX} {v : SY} (h : i_Rel k u v) : i_Rel (k + 4) u v := h
theorem i_vc0 : wpX_init (fun u => wpY_init (fun v => i_Rel 0 u v)) := ⟨0, 0, 0, fun _ => 0, fun _ => 0, by decide, rfl, rfl⟩
theorem i_vc_guard {k : Nat} {u : SX} {v : SY} (I : i_Rel k u v) (hk : k + 4 ≤ 2048) (v1 : Int32) (a1 : Int64) : wpX_guard (fun r u' => wpY_guard (fun r' v' => r' = r ∧ i_Rel (k + 4) u' v') v v1 a1) u v1 a1 := by
  obtain ⟨c, g, h, E, S, hc, rfl, rfl⟩ := I
  by_cases hw : v1 = 0
  · exact br_t hw (xa_size (ya_keep1 hw ⟨rfl, c, a1, h, E, S, hc, rfl, rfl⟩))
  · exact br_f hw (xa_size (ya_keep2 hw ⟨rfl, c, g, a1, E, S, hc, rfl, rfl⟩))
theorem i_vc_compare {k : Nat} {u : SX} {v : SY} (I : i_Rel k u v) (hk : k + 4 ≤ 2048) (v1 : Int32) (v2 : Int32) (v3 : Int32) : wpX_compare (fun r u' => wpY_compare (fun r' v' => r' = r ∧ i_Rel (k + 4) u' v') v v1 v2 v3) u v1 v2 v3 := by
  obtain ⟨c, g, h, E, S, hc, rfl, rfl⟩ := I
  rcases pk_ix v2 (n := 512) (by decide) with hf | hf | ⟨f, hf, rfl⟩
  · exact br_t hf (br_t rfl (br_t hf ⟨rfl, c, g, h, E, S, hc, rfl, rfl⟩))
  · have h0 : ¬ v2 < 0 := fun z => Int32.lt_irrefl (Int32.lt_of_lt_of_le z (Int32.le_trans (show (0 : Int32) ≤ 512 by decide) hf))
    have h5 : ¬ v2 ≤ 511 := fun z => absurd (Int32.le_trans hf z) (by decide)
    exact br_f h0 (br_t hf (br_t rfl (br_f h0 (br_f h5 ⟨rfl, c, g, h, E, S, hc, rfl, rfl⟩))))
  · have h0 : ¬ nI f < 0 := nI_pos (by omega)
    have h5 : ¬ (512 : Int32) ≤ nI f := nI_ge (b := 512) hf (by decide)
    have h5' : nI f ≤ 511 := nI_le (b := 511) (by omega) (by decide)
    refine br_f h0 (br_f h5 (br_f (by decide) ?_))
    by_cases h3 : v3 < 0
    · exact br_t h3 (br_f h0 (br_t h5' (br_t h3 ⟨rfl, c, g, h, E, S, hc, rfl, rfl⟩)))
    · by_cases h8 : v3 ≤ 8
      · refine br_f h3 (br_t h8 (xa_below hf ?_))
        by_cases hw : v1 = 0
        · exact br_t hw (xa_size (br_f h0 (br_t h5' (br_f h3 (br_t h8 ⟨65, ya_cmp0 hf 64 0 0 rfl (ya_keep1 hw ⟨rfl, c, _, h, E, S, hc, rfl, rfl⟩)⟩)))))
        · exact br_f hw (xa_size (br_f h0 (br_t h5' (br_f h3 (br_t h8 ⟨65, ya_cmp0 hf 64 0 0 rfl (ya_keep2 hw ⟨rfl, c, g, _, E, S, hc, rfl, rfl⟩)⟩)))))
      · exact br_f h3 (br_f h8 (br_f h0 (br_t h5' (br_f h3 (br_f h8 ⟨rfl, c, g, h, E, S, hc, rfl, rfl⟩)))))
theorem i_vc_oppose {k : Nat} {u : SX} {v : SY} (I : i_Rel k u v) (hk : k + 4 ≤ 2048) (v1 : Int32) : wpX_oppose (fun r u' => wpY_oppose (fun r' v' => r' = r ∧ i_Rel (k + 4) u' v') v v1) u v1 := by
  obtain ⟨c, g, h, E, S, hc, rfl, rfl⟩ := I
  by_cases hw : v1 = 0
  · exact br_t hw (br_t hw (xa_size (br_t hw (ya_keep1 hw ⟨rfl, c, _, h, E, S, hc, rfl, rfl⟩))))
  · exact br_f hw (br_f hw (xa_size (br_f hw (ya_keep2 hw ⟨rfl, c, g, _, E, S, hc, rfl, rfl⟩))))
theorem i_vc_skip {k : Nat} {u : SX} {v : SY} (I : i_Rel k u v) (hk : k + 4 ≤ 2048) : wpX_skip (fun r u' => wpY_skip (fun r' v' => r' = r ∧ i_Rel (k + 4) u' v') v) u := by
  obtain ⟨c, g, h, E, S, hc, rfl, rfl⟩ := I
  unfold wpX_skip wpY_skip wpY_plain
  dsimp only
  by_cases h3 : c < 30
  · exact xg_free h3 (br_t rfl (nm_r (hi_x c) ⟨65, xb_skip h3 (yg_free h3 (br_t rfl ⟨65, yb_skip h3 ⟨rfl, c + 1, g, h, _, _, by omega, rfl, rfl⟩⟩))⟩))
  · obtain rfl : c = 30 := by omega
    exact xg_full (br_f (by decide) (yg_full (br_f (by decide) ⟨rfl, 30, g, h, E, S, hc, rfl, rfl⟩)))
theorem i_vc_fail {k : Nat} {u : SX} {v : SY} (I : i_Rel k u v) (hk : k + 4 ≤ 2048) : wpX_fail (fun r u' => wpY_fail (fun r' v' => r' = r ∧ i_Rel (k + 4) u' v') v) u := by
  obtain ⟨c, g, h, E, S, hc, rfl, rfl⟩ := I
  unfold wpX_fail wpY_fail wpY_plain
  dsimp only
  by_cases h3 : c < 30
  · exact xg_free h3 (br_t rfl (nm_r (hi_x c) ⟨65, xb_fail h3 (yg_free h3 (br_t rfl ⟨65, yb_fail h3 ⟨rfl, c + 1, g, h, _, _, by omega, rfl, rfl⟩⟩))⟩))
  · obtain rfl : c = 30 := by omega
    exact xg_full (br_f (by decide) (yg_full (br_f (by decide) ⟨rfl, 30, g, h, E, S, hc, rfl, rfl⟩)))
theorem i_vc_assign {k : Nat} {u : SX} {v : SY} (I : i_Rel k u v) (hk : k + 4 ≤ 2048) (v1 : Int32) (v2 : Int32) : wpX_assign (fun r u' => wpY_assign (fun r' v' => r' = r ∧ i_Rel (k + 4) u' v') v v1 v2) u v1 v2 := by
  obtain ⟨c, g, h, E, S, hc, rfl, rfl⟩ := I
  unfold wpX_assign wpY_assign
  dsimp only
  rcases pk_ix v2 (n := 512) (by decide) with hf | hf | ⟨f, hf, rfl⟩
  · exact br_t hf (br_t rfl (br_t hf ⟨rfl, c, g, h, E, S, hc, rfl, rfl⟩))
  · have h0 : ¬ v2 < 0 := fun z => Int32.lt_irrefl (Int32.lt_of_lt_of_le z (Int32.le_trans (show (0 : Int32) ≤ 512 by decide) hf))
    have h5 : ¬ v2 ≤ 511 := fun z => absurd (Int32.le_trans hf z) (by decide)
    exact br_f h0 (br_t hf (br_t rfl (br_f h0 (br_f h5 ⟨rfl, c, g, h, E, S, hc, rfl, rfl⟩))))
  · have h0 : ¬ nI f < 0 := nI_pos (by omega)
    have h5 : ¬ (512 : Int32) ≤ nI f := nI_ge (b := 512) hf (by decide)
    have h5' : nI f ≤ 511 := nI_le (b := 511) (by omega) (by decide)
    refine br_f h0 (br_f h5 (br_f (by decide) ?_))
    by_cases h3 : c < 30
    · exact xg_free h3 (br_t rfl (nm_r (hi_x c) ⟨65, xb_assign hf h3 (br_f h0 (br_t h5' (yg_free h3 (br_t rfl ⟨65, yb_assign hf h3 ⟨rfl, c + 1, g, h, _, _, by omega, rfl, rfl⟩⟩))))⟩))
    · obtain rfl : c = 30 := by omega
      exact xg_full (br_f (by decide) (br_f h0 (br_t h5' (yg_full (br_f (by decide) ⟨rfl, 30, g, h, E, S, hc, rfl, rfl⟩)))))
theorem i_vc_sequence {k : Nat} {u : SX} {v : SY} (I : i_Rel k u v) (hk : k + 4 ≤ 2048) (v1 : Int32) (v2 : Int32) : wpX_sequence (fun r u' => wpY_sequence (fun r' v' => r' = r ∧ i_Rel (k + 4) u' v') v v1 v2) u v1 v2 := by
  obtain ⟨c, g, h, E, S, hc, rfl, rfl⟩ := I
  unfold wpX_sequence wpY_sequence
  dsimp only
  rcases vg_or v1 hc with h1 | ⟨a, ha, rfl⟩
  · exact xg_bad h1 (br_t rfl (yg_bad h1 (br_f (by decide) ⟨rfl, c, g, h, E, S, hc, rfl, rfl⟩)))
  · rcases vg_or v2 hc with h2 | ⟨b, hb, rfl⟩
    · exact xg_good ha hc (br_f (by decide) (xg_bad h2 (br_t rfl (yg_good ha hc (br_t rfl (yg_bad h2 (br_f (by decide) ⟨rfl, c, g, h, E, S, hc, rfl, rfl⟩)))))))
    · refine xg_good ha hc (br_f (by decide) (xg_good hb hc (br_f (by decide) ?_)))
      by_cases h3 : c < 30
      · exact xg_free h3 (br_t rfl (nm_r (hi_x c) (nm_r (hi_x a) ⟨65, xb_seq ha hb h3 (yg_good ha hc (br_t rfl (yg_good hb hc (br_t rfl (yg_free h3 (br_t rfl ⟨65, yb_seq ha hb h3 ⟨rfl, c + 1, g, h, _, _, by omega, rfl, rfl⟩⟩))))))⟩)))
      · obtain rfl : c = 30 := by omega
        exact xg_full (br_f (by decide) (yg_good ha hc (br_t rfl (yg_good hb hc (br_t rfl (yg_full (br_f (by decide) ⟨rfl, 30, g, h, E, S, hc, rfl, rfl⟩)))))))
theorem i_vc_choice {k : Nat} {u : SX} {v : SY} (I : i_Rel k u v) (hk : k + 4 ≤ 2048) (v1 : Int32) (v2 : Int32) : wpX_choice (fun r u' => wpY_choice (fun r' v' => r' = r ∧ i_Rel (k + 4) u' v') v v1 v2) u v1 v2 := by
  obtain ⟨c, g, h, E, S, hc, rfl, rfl⟩ := I
  unfold wpX_choice wpY_choice
  dsimp only
  rcases vg_or v1 hc with h1 | ⟨a, ha, rfl⟩
  · exact xg_bad h1 (br_t rfl (yg_bad h1 (br_f (by decide) ⟨rfl, c, g, h, E, S, hc, rfl, rfl⟩)))
  · rcases vg_or v2 hc with h2 | ⟨b, hb, rfl⟩
    · exact xg_good ha hc (br_f (by decide) (xg_bad h2 (br_t rfl (yg_good ha hc (br_t rfl (yg_bad h2 (br_f (by decide) ⟨rfl, c, g, h, E, S, hc, rfl, rfl⟩)))))))
    · refine xg_good ha hc (br_f (by decide) (xg_good hb hc (br_f (by decide) ?_)))
      by_cases h3 : c < 30
      · refine xg_free h3 (br_t rfl (xa_wb ha hb h3 (xa_un (by omega) (by omega) (xa_add h3 ?_))))
        rw [hg_eq]
        exact yg_good ha hc (br_t rfl (yg_good hb hc (br_t rfl (yg_free h3 (br_t rfl ⟨65, yb_ch ha hb h3 ⟨rfl, c + 1, g, h, _, _, by omega, rfl, rfl⟩⟩)))))
      · obtain rfl : c = 30 := by omega
        exact xg_full (br_f (by decide) (yg_good ha hc (br_t rfl (yg_good hb hc (br_t rfl (yg_full (br_f (by decide) ⟨rfl, 30, g, h, E, S, hc, rfl, rfl⟩)))))))
theorem i_vc_loop {k : Nat} {u : SX} {v : SY} (I : i_Rel k u v) (hk : k + 4 ≤ 2048) (v1 : Int32) (v2 : Int32) : wpX_loop (fun r u' => wpY_loop (fun r' v' => r' = r ∧ i_Rel (k + 4) u' v') v v1 v2) u v1 v2 := by
  obtain ⟨c, g, h, E, S, hc, rfl, rfl⟩ := I
  unfold wpX_loop wpY_loop
  dsimp only
  rcases vg_or v1 hc with h1 | ⟨a, ha, rfl⟩
  · exact xg_bad h1 (br_t rfl (yg_bad h1 (br_f (by decide) ⟨rfl, c, g, h, E, S, hc, rfl, rfl⟩)))
  · rcases vg_or v2 hc with h2 | ⟨b, hb, rfl⟩
    · exact xg_good ha hc (br_f (by decide) (xg_bad h2 (br_t rfl (yg_good ha hc (br_t rfl (yg_bad h2 (br_f (by decide) ⟨rfl, c, g, h, E, S, hc, rfl, rfl⟩)))))))
    · refine xg_good ha hc (br_f (by decide) (xg_good hb hc (br_f (by decide) ?_)))
      by_cases h3 : c < 30
      · refine xg_free h3 (br_t rfl (xa_wb ha hb h3 (xa_cs h3 (xa_ret h3 (xa_un (by omega) (by omega) (xa_avoid h3 (xa_ko h3 (xa_add h3 ?_))))))))
        rw [hl_rc, hl_wc]
        exact yg_good ha hc (br_t rfl (yg_good hb hc (br_t rfl (yg_free h3 (br_t rfl ⟨65, yb_loop ha hb h3 ⟨rfl, c + 1, g, h, _, _, by omega, rfl, rfl⟩⟩)))))
      · obtain rfl : c = 30 := by omega
        exact xg_full (br_f (by decide) (yg_good ha hc (br_t rfl (yg_good hb hc (br_t rfl (yg_full (br_f (by decide) ⟨rfl, 30, g, h, E, S, hc, rfl, rfl⟩)))))))
theorem i_vc_programs {k : Nat} {u : SX} {v : SY} (I : i_Rel k u v) (hk : k + 4 ≤ 2048) : wpX_programs (fun r => wpY_programs (fun r' => r' = r ∧ i_Rel (k + 4) u v) v) u := by
  obtain ⟨c, g, h, E, S, hc, rfl, rfl⟩ := I
  exact ⟨rfl, c, g, h, E, S, hc, rfl, rfl⟩
theorem i_vc_ends {k : Nat} {u : SX} {v : SY} (I : i_Rel k u v) (hk : k + 4 ≤ 2048) (v1 : Int32) (v2 : Int32) : wpX_ends (fun r => wpY_ends (fun r' => r' = r ∧ i_Rel (k + 4) u v) v v1 v2) u v1 v2 := by
  obtain ⟨c, g, h, E, S, hc, rfl, rfl⟩ := I
  unfold wpX_ends wpY_ends
  dsimp only
  have J : i_Rel (k + 4) (nI c, g, h, E, S) (g, h, nI c, E, S) := ⟨c, g, h, E, S, hc, rfl, rfl⟩
  rcases vg_or v1 hc with h1 | ⟨a, ha, rfl⟩
  · exact xg_bad h1 (br_t rfl (yg_bad h1 (br_f (by decide) ⟨rfl, J⟩)))
  · refine xg_good ha hc (br_f (by decide) ?_)
    rcases pk_ix v2 (n := 64) (by decide) with hf | hf | ⟨s, hs, rfl⟩
    · exact br_t hf (yg_good ha hc (br_t rfl (br_t hf ⟨rfl, J⟩)))
    · have h0 : ¬ v2 < 0 := fun z => Int32.lt_irrefl (Int32.lt_of_lt_of_le z (Int32.le_trans (show (0 : Int32) ≤ 64 by decide) hf))
      have h5 : ¬ v2 ≤ 63 := fun z => absurd (Int32.le_trans hf z) (by decide)
      have h6 : ¬ v2 < 64 := fun z => Int32.lt_irrefl (Int32.lt_of_lt_of_le z hf)
      exact br_f h0 (br_f h6 (yg_good ha hc (br_t rfl (br_f h0 (br_f h5 ⟨rfl, J⟩)))))
    · have h0 : ¬ nI s < 0 := nI_pos (by omega)
      have h5 : nI s ≤ 63 := nI_le (b := 63) (by omega) (by decide)
      have h6 : nI s < 64 := nI_lt (b := 64) hs (by decide)
      refine br_f h0 (br_t h6 ⟨by rw [hi_x]; exact hi_in (by omega) hs, ?_⟩)
      refine yg_good ha hc (br_t rfl (br_f h0 (br_t h5 ⟨hi_iny (by omega) hs, ?_, J⟩)))
      rw [hi_x, hi_y]
theorem i_vc_sure {k : Nat} {u : SX} {v : SY} (I : i_Rel k u v) (hk : k + 4 ≤ 2048) (v1 : Int32) : wpX_sure (fun r => wpY_sure (fun r' => r' = r ∧ i_Rel (k + 4) u v) v v1) u v1 := by
  obtain ⟨c, g, h, E, S, hc, rfl, rfl⟩ := I
  unfold wpX_sure wpY_sure
  dsimp only
  have J : i_Rel (k + 4) (nI c, g, h, E, S) (g, h, nI c, E, S) := ⟨c, g, h, E, S, hc, rfl, rfl⟩
  rcases vg_or v1 hc with h1 | ⟨a, ha, rfl⟩
  · exact xg_bad h1 (br_t rfl (yg_bad h1 (br_f (by decide) ⟨rfl, J⟩)))
  · exact xg_good ha hc (br_f (by decide) ⟨hi_30 (by omega), yg_good ha hc (br_t rfl ⟨hi_30 (by omega), rfl, J⟩)⟩)
theorem i_vc_demand {k : Nat} {u : SX} {v : SY} (I : i_Rel k u v) (hk : k + 4 ≤ 2048) (v1 : Int32) (a1 : Int64) : wpX_demand (fun r => wpY_demand (fun r' => r' = r ∧ i_Rel (k + 4) u v) v v1 a1) u v1 a1 := by
  obtain ⟨c, g, h, E, S, hc, rfl, rfl⟩ := I
  unfold wpX_demand wpY_demand
  dsimp only
  have J : i_Rel (k + 4) (nI c, g, h, E, S) (g, h, nI c, E, S) := ⟨c, g, h, E, S, hc, rfl, rfl⟩
  rcases vg_or v1 hc with h1 | ⟨a, ha, rfl⟩
  · exact xg_bad h1 (br_t rfl (yg_bad h1 (br_f (by decide) ⟨rfl, J⟩)))
  · exact xg_good ha hc (br_f (by decide) (xa_only (by omega) ⟨hi_30 (by omega), yg_good ha hc (br_t rfl (ya_weak (by omega) ⟨hi_30 (by omega), Int64.and_comm _ _, J⟩))⟩))
theorem i_vc_weakDemand {k : Nat} {u : SX} {v : SY} (I : i_Rel k u v) (hk : k + 4 ≤ 2048) (v1 : Int32) (a1 : Int64) : wpX_weakDemand (fun r => wpY_weakDemand (fun r' => r' = r ∧ i_Rel (k + 4) u v) v v1 a1) u v1 a1 := by
  obtain ⟨c, g, h, E, S, hc, rfl, rfl⟩ := I
  unfold wpX_weakDemand wpY_weakDemand
  dsimp only
  have J : i_Rel (k + 4) (nI c, g, h, E, S) (g, h, nI c, E, S) := ⟨c, g, h, E, S, hc, rfl, rfl⟩
  rcases vg_or v1 hc with h1 | ⟨a, ha, rfl⟩
  · exact xg_bad h1 (br_t rfl (yg_bad h1 (br_f (by decide) ⟨rfl, J⟩)))
  · exact xg_good ha hc (br_f (by decide) (xa_only (by omega) (yg_good ha hc (br_t rfl (ya_weak (by omega) ⟨rfl, J⟩)))))
theorem i_vc_image {k : Nat} {u : SX} {v : SY} (I : i_Rel k u v) (hk : k + 4 ≤ 2048) (v1 : Int32) (a1 : Int64) : wpX_image (fun r => wpY_image (fun r' => r' = r ∧ i_Rel (k + 4) u v) v v1 a1) u v1 a1 := by
  obtain ⟨c, g, h, E, S, hc, rfl, rfl⟩ := I
  unfold wpX_image wpY_image
  dsimp only
  have J : i_Rel (k + 4) (nI c, g, h, E, S) (g, h, nI c, E, S) := ⟨c, g, h, E, S, hc, rfl, rfl⟩
  rcases vg_or v1 hc with h1 | ⟨a, ha, rfl⟩
  · exact xg_bad h1 (br_t rfl (yg_bad h1 (br_f (by decide) ⟨rfl, J⟩)))
  · exact xg_good ha hc (br_f (by decide) (xa_all (by omega) (yg_good ha hc (br_t rfl (ya_from (by omega) ⟨rfl, J⟩)))))
theorem i_vc_refines {k : Nat} {u : SX} {v : SY} (I : i_Rel k u v) (hk : k + 4 ≤ 2048) (v1 : Int32) (v2 : Int32) : wpX_refines (fun r => wpY_refines (fun r' => r' = r ∧ i_Rel (k + 4) u v) v v1 v2) u v1 v2 := by
  obtain ⟨c, g, h, E, S, hc, rfl, rfl⟩ := I
  unfold wpX_refines wpY_refines
  dsimp only
  have J : i_Rel (k + 4) (nI c, g, h, E, S) (g, h, nI c, E, S) := ⟨c, g, h, E, S, hc, rfl, rfl⟩
  rcases vg_or v1 hc with h1 | ⟨a, ha, rfl⟩
  · exact xg_bad h1 (br_t rfl (yg_bad h1 (br_f (by decide) ⟨rfl, J⟩)))
  · rcases vg_or v2 hc with h2 | ⟨b, hb, rfl⟩
    · exact xg_good ha hc (br_f (by decide) (xg_bad h2 (br_t rfl (yg_good ha hc (br_t rfl (yg_bad h2 (br_f (by decide) ⟨rfl, J⟩)))))))
    · have ha3 : a < 30 := by omega
      have hb3 : b < 30 := by omega
      refine xg_good ha hc (br_f (by decide) (xg_good hb hc (br_f (by decide) ⟨hi_30 ha3, hi_30 hb3, ?_⟩)))
      rw [hi_c30 ha3, hi_c30 hb3]
      refine br_c (fun hz => nm_r (hi_x a) (nm_r (hi_x b) ⟨65, xa_ref0 ha3 hb3 (fun hd => ?_) (fun hd => ?_) 64 0 rfl (fun s hs => absurd hs (Nat.not_lt_zero s))⟩)) (fun hz => ?_)
      · exact yg_good ha hc (br_t rfl (yg_good hb hc (br_t rfl ⟨65, ya_ref0 ha3 hb3 (fun _ => ⟨rfl, J⟩) (fun z => absurd (fun s hs hS => ⟨hb_sub.mp hz s hS, hd s hs hS⟩) z) 64 0 rfl (fun s hs => absurd hs (Nat.not_lt_zero s))⟩)))
      · exact yg_good ha hc (br_t rfl (yg_good hb hc (br_t rfl ⟨65, ya_ref0 ha3 hb3 (fun z => absurd (fun s hs hS => (z s hs hS).2) hd) (fun _ => ⟨rfl, J⟩) 64 0 rfl (fun s hs => absurd hs (Nat.not_lt_zero s))⟩)))
      · exact yg_good ha hc (br_t rfl (yg_good hb hc (br_t rfl ⟨65, ya_ref0 ha3 hb3 (fun z => absurd (hb_sub.mpr fun s hS => (z s (hb_lt hS) hS).1) hz) (fun _ => ⟨rfl, J⟩) 64 0 rfl (fun s hs => absurd hs (Nat.not_lt_zero s))⟩)))
theorem i_vc_settled {k : Nat} {u : SX} {v : SY} (I : i_Rel k u v) (hk : k + 4 ≤ 2048) (v1 : Int32) : wpX_settled (fun r => wpY_settled (fun r' => r' = r ∧ i_Rel (k + 4) u v) v v1) u v1 := by
  obtain ⟨c, g, h, E, S, hc, rfl, rfl⟩ := I
  unfold wpX_settled wpY_settled
  dsimp only
  have J : i_Rel (k + 4) (nI c, g, h, E, S) (g, h, nI c, E, S) := ⟨c, g, h, E, S, hc, rfl, rfl⟩
  rcases vg_or v1 hc with h1 | ⟨a, ha, rfl⟩
  · exact xg_bad h1 (br_t rfl (yg_bad h1 (br_f (by decide) ⟨rfl, J⟩)))
  · have ha3 : a < 30 := by omega
    refine xg_good ha hc (br_f (by decide) (nm_r (hi_x a) ⟨65, xa_set0 ha3 (fun hd => ?_) (fun hd => ?_) 64 0 rfl (fun s hs => absurd hs (Nat.not_lt_zero s))⟩))
    · exact yg_good ha hc (br_t rfl ⟨65, ya_set0 ha3 (fun _ => ⟨rfl, J⟩) (fun z => absurd hd z) 64 0 rfl (fun s hs => absurd hs (Nat.not_lt_zero s))⟩)
    · exact yg_good ha hc (br_t rfl ⟨65, ya_set0 ha3 (fun z => absurd z hd) (fun _ => ⟨rfl, J⟩) 64 0 rfl (fun s hs => absurd hs (Nat.not_lt_zero s))⟩)
theorem i_vc_widest {k : Nat} {u : SX} {v : SY} (I : i_Rel k u v) (hk : k + 4 ≤ 2048) (v1 : Int32) : wpX_widest (fun r => wpY_widest (fun r' => r' = r ∧ i_Rel (k + 4) u v) v v1) u v1 := by
  obtain ⟨c, g, h, E, S, hc, rfl, rfl⟩ := I
  unfold wpX_widest wpY_widest
  dsimp only
  have J : i_Rel (k + 4) (nI c, g, h, E, S) (g, h, nI c, E, S) := ⟨c, g, h, E, S, hc, rfl, rfl⟩
  rcases vg_or v1 hc with h1 | ⟨a, ha, rfl⟩
  · exact xg_bad h1 (br_t rfl (yg_bad h1 (br_f (by decide) ⟨rfl, J⟩)))
  · exact xg_good ha hc (br_f (by decide) (nm_r (hi_x a) ⟨65, xa_wid0 (by omega) 64 0 0 rfl (yg_good ha hc (br_t rfl ⟨65, ya_wid0 (by omega) 64 0 0 rfl ⟨rfl, J⟩⟩))⟩))
end
