-- counters and places
theorem hi_le {j : Nat} (h : 64 ≤ j) (hj : j < 2 ^ 31) : (64 : Int32) ≤ nI j := nI_le (a := 64) h hj
theorem hi_gt {j : Nat} (h : j < 64) : ¬ (64 : Int32) ≤ nI j := nI_ge (b := 64) h (by decide)
theorem hi_x (c : Nat) : nI c * 64 = nI (64 * c) := by
  rw [show (64 : Int32) = nI 64 from rfl, pk_mul, Nat.mul_comm]
theorem hi_y (c : Nat) : (64 : Int32) * nI c = nI (64 * c) := by
  rw [show (64 : Int32) = nI 64 from rfl, pk_mul]
theorem hi_in {c j : Nat} (hc : c < 30) (hj : j < 64) : vp_in (nI (64 * c) + nI j) 1920 := by
  rw [nI_add]; exact vp_in_nI (by omega) (by decide)
theorem hi_cl {c j : Nat} (hc : c < 30) (hj : j < 64) : (nI (64 * c) + nI j).toNatClampNeg = 64 * c + j := by
  rw [nI_add]; exact nI_clamp (by omega)
theorem hi_iny {c j : Nat} (hc : c < 30) (hj : j < 64) : vp_in ((64 * nI c) + nI j) 1920 := by
  rw [hi_y]; exact hi_in hc hj
theorem hi_cly {c j : Nat} (hc : c < 30) (hj : j < 64) : ((64 * nI c) + nI j).toNatClampNeg = 64 * c + j := by
  rw [hi_y]; exact hi_cl hc hj
theorem hi_30 {c : Nat} (hc : c < 30) : vp_in (nI c) 30 := vp_in_nI hc (by decide)
theorem hi_c30 {c : Nat} (hc : c < 30) : (nI c).toNatClampNeg = c := nI_clamp (by omega)
theorem hi_rd (E : Nat → Int64) {c j : Nat} (hc : c < 30) (hj : j < 64) : E (nI (64 * c) + nI j).toNatClampNeg = hr_r E c j := by
  rw [hi_cl hc hj]; exact hr_rv hj
theorem hi_rdy (E : Nat → Int64) {c j : Nat} (hc : c < 30) (hj : j < 64) : E ((64 * nI c) + nI j).toNatClampNeg = hr_r E c j := by
  rw [hi_cly hc hj]; exact hr_rv hj
theorem hi_up {E F : Nat → Int64} {c j : Nat} {w : Int64} (hc : c < 30) (hj : j < 64) (hw : w = F j) : vp_updL (hr_w E c F j) (nI (64 * c) + nI j).toNatClampNeg w = hr_w E c F (j + 1) := by
  rw [hi_cl hc hj, hw]; exact hr_ws
theorem hi_upy {E F : Nat → Int64} {c j : Nat} {w : Int64} (hc : c < 30) (hj : j < 64) (hw : w = F j) : vp_updL (hr_w E c F j) ((64 * nI c) + nI j).toNatClampNeg w = hr_w E c F (j + 1) := by
  rw [hi_y]; exact hi_up hc hj hw
-- X: bits and sizes
theorem xa_has {A B : Prop} {x : Int64} {j : Nat} (hj : j < 64) (h1 : hb_b x j = true → B) (h0 : hb_b x j = false → A) : wpX_has (fun r => (r = 0 → A) ∧ (¬ r = 0 → B)) x (nI j) :=
  ⟨fun z => br_t rfl (h0 ((hb_hx hj).mp z)), fun z => br_f (by decide) (h1 (ts_nf fun w => z ((hb_hx hj).mpr w)))⟩
theorem ha_p {α : Type} {c : Bool} {a b : α} {P : α → Prop} (hc : c = true) (h : P (if c = true then a else b)) : P a := by rw [if_pos hc] at h; exact h
theorem ha_n {α : Type} {c : Bool} {a b : α} {P : α → Prop} (hc : c = false) (h : P (if c = true then a else b)) : P b := by rw [if_neg (by rw [hc]; decide)] at h; exact h
theorem xa_size0 {post : Int32 → Prop} {x : Int64} : ∀ d j a, j + d = 64 → post (hb_sz x d j a) → wX_sizeOf_4 post x (d + 1) a (nI j) := by
  intro d
  induction d with
  | zero => intro j a hj hp; exact br_t (hi_le (by omega) (by omega)) hp
  | succ d ih =>
    intro j a hj hp
    refine br_f (hi_gt (by omega)) (xa_has (by omega) (fun hb => ?_) (fun hb => ?_))
    · exact nm_e (nm_r (nI_1 j) (ih (j + 1) _ (by omega) (ha_p (P := fun z => post (hb_sz x d (j + 1) z)) hb hp)))
    · exact nm_r (nI_1 j) (ih (j + 1) _ (by omega) (ha_n (P := fun z => post (hb_sz x d (j + 1) z)) hb hp))
theorem xa_size {post : Int32 → Prop} {x : Int64} (hp : post (hb_sz x 64 0 0)) : wpX_sizeOf post x := ⟨65, xa_size0 64 0 0 rfl hp⟩
-- X: forms
def hv_v (f s : Nat) : Nat := (f / 64 * (s / 8) + f / 8 % 8 * (s % 8) + f % 8) % 8
theorem hv_lt {f s : Nat} : hv_v f s < 8 := Nat.mod_lt _ (by decide)
theorem hv_bd {f s : Nat} (hf : f < 512) (hs : s < 64) : f / 64 * (s / 8) + f / 8 % 8 * (s % 8) + f % 8 < 1000 := by
  have h1 : f / 64 * (s / 8) ≤ 7 * 7 := Nat.mul_le_mul (by omega) (by omega)
  have h2 : f / 8 % 8 * (s % 8) ≤ 7 * 7 := Nat.mul_le_mul (by omega) (by omega)
  omega
theorem hv_s {n : Nat} (h : n < 512) : nI n >>> ((3 : Int32) &&& 31) = nI (n / 8) := pk_shrN (by omega) _ 3 (by decide)
theorem hv_m {n : Nat} (h : n < 1000) : nI n &&& 7 = nI (n % 8) := pk_andN (by omega) 3 (by decide)
theorem xa_val {post : Int32 → Prop} {f s : Nat} (hf : f < 512) (hs : s < 64) (hp : post (nI (hv_v f s))) : wpX_valueOfForm post (nI f) (nI s) := by
  intro x2 e2 x3 e3 x4 e4 x5 e5 x6 e6
  have h2 : x2 = nI (f / 64) := e2.trans (pk_shrN (by omega) _ 6 (by decide))
  have h3 : x3 = nI (f / 8 % 8) := by rw [e3, hv_s hf, hv_m (by omega)]
  have h4 : x4 = nI (f % 8) := by rw [e4, hv_m (by omega)]
  have h5 : x5 = nI (s / 8) := by rw [e5, hv_s (by omega)]
  have h6 : x6 = nI (s % 8) := by rw [e6, hv_m (by omega)]
  have e : (((x2 * x5) + (x3 * x6)) + x4) &&& 7 = nI (hv_v f s) := by
    rw [h2, h3, h4, h5, h6, pk_mul, pk_mul, nI_add, nI_add, hv_m (hv_bd hf hs)]
    rfl
  rw [e]
  exact hp
def hv_c (f : Nat) (b : Int32) : Nat → Bool := fun s => decide (¬ b ≤ nI (hv_v f s))
theorem xa_below0 {post : Int64 → Prop} {f : Nat} {b : Int32} (hf : f < 512) : ∀ d j a, j + d = 64 → post (hb_fo (hv_c f b) d j a) → wX_statesBelow_5 post (nI f) b (d + 1) a (nI j) := by
  intro d
  induction d with
  | zero => intro j a hj hp; exact br_t (hi_le (by omega) (by omega)) hp
  | succ d ih =>
    intro j a hj hp
    refine br_f (hi_gt (by omega)) (xa_val hf (by omega) (br_c (fun hb => ?_) (fun hb => ?_)))
    · exact nm_r (nI_1 j) (ih (j + 1) _ (by omega) (ha_n (P := fun z => post (hb_fo (hv_c f b) d (j + 1) z)) (decide_eq_false (not_not_intro hb)) hp))
    · exact nm_e (nm_r (nI_1 j) (ih (j + 1) _ (by omega) (ha_p (P := fun z => post (hb_fo (hv_c f b) d (j + 1) z)) (decide_eq_true hb) hp)))
theorem xa_below {post : Int64 → Prop} {f : Nat} {b : Int32} (hf : f < 512) (hp : post (hb_set (hv_c f b))) : wpX_statesBelow post (nI f) b := ⟨65, xa_below0 hf 64 0 0 rfl hp⟩
def hv_a (w : Int32) (f s : Nat) : Nat := if w = 0 then 8 * hv_v f s + s % 8 else 8 * (s / 8) + hv_v f s
theorem hv_8 (n : Nat) : (8 : Int32) * nI n = nI (8 * n) := by rw [show (8 : Int32) = nI 8 from rfl, pk_mul]
theorem xa_after {post : Int32 → Prop} {w : Int32} {f s : Nat} (hf : f < 512) (hs : s < 64) (hp : post (nI (hv_a w f s))) : wpX_stateAfterAssignment post w (nI f) (nI s) := by
  refine xa_val hf hs (nm_r (hv_s (by omega)) (nm_r (hv_m (by omega)) (br_c (fun hw => ?_) (fun hw => ?_))))
  · unfold hv_a at hp
    rw [if_pos hw] at hp
    rw [hv_8, nI_add]
    exact hp
  · unfold hv_a at hp
    rw [if_neg hw] at hp
    rw [hv_8, nI_add]
    exact hp
-- X: rows
theorem xa_all0 {post : Int64 → Prop} {q : Int64} {b : Nat} {m : Int32} {g h : Int64} {E S : Nat → Int64} (hb : b < 30) : ∀ d j a, j + d = 64 → post (hb_fr (hr_r E b) q d j a) → wX_allEnds_12 post q (nI (64 * b)) m g h E S (d + 1) a (nI j) := by
  intro d
  induction d with
  | zero => intro j a hj hp; exact br_t (hi_le (by omega) (by omega)) hp
  | succ d ih =>
    intro j a hj hp
    have h6 : j < 64 := by omega
    refine br_f (hi_gt h6) (xa_has h6 (fun hq => ⟨hi_in hb h6, ?_⟩) (fun hq => ?_))
    · rw [hi_rd E hb h6]
      exact nm_e (nm_r (nI_1 j) (ih (j + 1) _ (by omega) (ha_p (P := fun z => post (hb_fr (hr_r E b) q d (j + 1) z)) hq hp)))
    · exact nm_r (nI_1 j) (ih (j + 1) _ (by omega) (ha_n (P := fun z => post (hb_fr (hr_r E b) q d (j + 1) z)) hq hp))
def hb_im (f : Nat → Int64) (q : Int64) : Int64 := hb_fr f q 64 0 0
theorem xa_all {post : Int64 → Prop} {q : Int64} {b : Nat} {m : Int32} {g h : Int64} {E S : Nat → Int64} (hb : b < 30) (hp : post (hb_im (hr_r E b) q)) : wpX_allEnds post (m, g, h, E, S) (nI b) q := nm_r (hi_x b) ⟨65, xa_all0 hb 64 0 0 rfl hp⟩
def hw_c (R : Nat → Int64) (q : Int64) : Nat → Bool := fun s => decide ((R s &&& (q ^^^ (-1))) = 0)
theorem xa_only0 {post : Int64 → Prop} {q : Int64} {b : Nat} {m : Int32} {g h : Int64} {E S : Nat → Int64} (hb : b < 30) : ∀ d j a, j + d = 64 → post (hb_fo (hw_c (hr_r E b) q) d j a) → wX_statesEndingOnlyIn_12 post q (nI (64 * b)) m g h E S (d + 1) a (nI j) := by
  intro d
  induction d with
  | zero => intro j a hj hp; exact br_t (hi_le (by omega) (by omega)) hp
  | succ d ih =>
    intro j a hj hp
    have h6 : j < 64 := by omega
    refine br_f (hi_gt h6) ⟨hi_in hb h6, ?_⟩
    rw [hi_rd E hb h6]
    refine br_c (fun hq => ?_) (fun hq => ?_)
    · exact nm_e (nm_r (nI_1 j) (ih (j + 1) _ (by omega) (ha_p (P := fun z => post (hb_fo (hw_c (hr_r E b) q) d (j + 1) z)) (decide_eq_true hq) hp)))
    · exact nm_r (nI_1 j) (ih (j + 1) _ (by omega) (ha_n (P := fun z => post (hb_fo (hw_c (hr_r E b) q) d (j + 1) z)) (decide_eq_false hq) hp))
theorem xa_only {post : Int64 → Prop} {q : Int64} {b : Nat} {m : Int32} {g h : Int64} {E S : Nat → Int64} (hb : b < 30) (hp : post (hb_set (hw_c (hr_r E b) q))) : wpX_statesEndingOnlyIn post (m, g, h, E, S) (nI b) q := nm_r (hi_x b) ⟨65, xa_only0 hb 64 0 0 rfl hp⟩
theorem xa_add {post : Int32 → SX → Prop} {c : Nat} {g h w : Int64} {E S : Nat → Int64} (hc : c < 30) (hp : post (nI c) (nI (c + 1), g, h, E, vp_updL S c w)) : wpX_addProgram post (nI c, g, h, E, S) w :=
  ⟨hi_30 hc, nm_r (by rw [hi_c30 hc]) (nm_r (nI_1 c) hp)⟩
theorem xa_skip0 {post : Int32 → SX → Prop} {c : Nat} {g h : Int64} {E S : Nat → Int64} (hc : c < 30) (hp : post (nI c) (nI (c + 1), g, h, hr_w E c hb_o 64, vp_updL S c (-1))) : ∀ d j, j + d = 64 → wX_skip_19 post (nI (64 * c)) (nI c) g h (d + 1) (nI j) (hr_w E c hb_o j) S := by
  intro d
  induction d with
  | zero =>
    intro j hj
    obtain rfl : j = 64 := hj
    exact br_t (hi_le (by omega) (by omega)) (xa_add hc hp)
  | succ d ih =>
    intro j hj
    have h6 : j < 64 := by omega
    exact br_f (hi_gt h6) ⟨hi_in hc h6, nm_r (hi_up hc h6 rfl) (nm_r (nI_1 j) (ih (j + 1) (by omega)))⟩
theorem xa_fail0 {post : Int32 → SX → Prop} {c : Nat} {g h : Int64} {E S : Nat → Int64} (hc : c < 30) (hp : post (nI c) (nI (c + 1), g, h, hr_w E c (fun _ => 0) 64, vp_updL S c 0)) : ∀ d j, j + d = 64 → wX_fail_19 post (nI (64 * c)) (nI c) g h (d + 1) (nI j) (hr_w E c (fun _ => 0) j) S := by
  intro d
  induction d with
  | zero =>
    intro j hj
    obtain rfl : j = 64 := hj
    exact br_t (hi_le (by omega) (by omega)) (xa_add hc hp)
  | succ d ih =>
    intro j hj
    have h6 : j < 64 := by omega
    exact br_f (hi_gt h6) ⟨hi_in hc h6, nm_r (hi_up hc h6 rfl) (nm_r (nI_1 j) (ih (j + 1) (by omega)))⟩
def hv_f (w : Int32) (f : Nat) : Nat → Int64 := fun s => hb_o (hv_a w f s)
theorem xa_assign0 {post : Int32 → SX → Prop} {w : Int32} {f c : Nat} {g h : Int64} {E S : Nat → Int64} (hf : f < 512) (hc : c < 30) (hp : post (nI c) (nI (c + 1), g, h, hr_w E c (hv_f w f) 64, vp_updL S c (-1))) : ∀ d j, j + d = 64 → wX_assign_30 post w (nI f) (nI (64 * c)) (nI c) g h (d + 1) (nI j) (hr_w E c (hv_f w f) j) S := by
  intro d
  induction d with
  | zero =>
    intro j hj
    obtain rfl : j = 64 := hj
    exact br_t (hi_le (by omega) (by omega)) (xa_add hc hp)
  | succ d ih =>
    intro j hj
    have h6 : j < 64 := by omega
    exact br_f (hi_gt h6) (xa_after hf h6 ⟨hi_in hc h6, nm_r (hi_up hc h6 rfl) (nm_r (nI_1 j) (ih (j + 1) (by omega)))⟩)
def hq_f (E : Nat → Int64) (a b : Nat) : Nat → Int64 := fun s => hb_im (hr_r E b) (hr_r E a s)
theorem xa_seq0 {post : Int32 → SX → Prop} {a b c : Nat} {g h : Int64} {E S : Nat → Int64} (ha : a < c) (hb : b < c) (hc : c < 30) (hp : post (nI c) (nI (c + 1), g, h, hr_w E c (hq_f E a b) 64, vp_updL S c (S a &&& hb_set (hw_c (hr_r E a) (S b))))) : ∀ d j, j + d = 64 → wX_sequence_45 post (nI a) (nI b) (nI (64 * c)) (nI (64 * a)) (nI c) g h (d + 1) (nI j) (hr_w E c (hq_f E a b) j) S := by
  have ha3 : a < 30 := by omega
  have hb3 : b < 30 := by omega
  intro d
  induction d with
  | zero =>
    intro j hj
    obtain rfl : j = 64 := hj
    refine br_t (hi_le (by omega) (by omega)) ⟨hi_30 hb3, xa_only ha3 ⟨hi_30 ha3, ?_⟩⟩
    rw [hi_c30 ha3, hi_c30 hb3, hr_rw ha]
    exact xa_add hc hp
  | succ d ih =>
    intro j hj
    have h6 : j < 64 := by omega
    refine br_f (hi_gt h6) ⟨hi_in ha3 h6, xa_all hb3 ⟨hi_in hc h6, nm_r (hi_up hc h6 ?_) (nm_r (nI_1 j) (ih (j + 1) (by omega)))⟩⟩
    rw [hi_rd (hr_w E c (hq_f E a b) j) ha3 h6, hr_rw ha, hr_rw hb]
    rfl
-- X: branches
theorem xa_wb87 {post : SX → Prop} {J : Int32 → (Nat → Int64) → (Nat → Int64) → Prop} {x4 x5 m : Int32} {c j : Nat} {x g h : Int64} {E S : Nat → Int64} (hc : c < 30) (hj : j < 64) (hp : J (nI (j + 1)) (vp_updL E (64 * c + j) x) S) : wX_writeBranches_87 post J (nI (64 * c)) x4 x5 (nI j) x m g h E S :=
  ⟨hi_in hc hj, nm_r (by rw [hi_cl hc hj]) (nm_r (nI_1 j) hp)⟩
theorem xa_wb60 {post : SX → Prop} {J : Int32 → (Nat → Int64) → (Nat → Int64) → Prop} {x4 m : Int32} {b c j : Nat} {x g h : Int64} {E S : Nat → Int64} (hb : b < 30) (hc : c < 30) (hj : j < 64) (hp : J (nI (j + 1)) (vp_updL E (64 * c + j) (if hb_b h j = true then x ||| hr_r E b j else x)) S) : wX_writeBranches_60 post J (nI (64 * c)) x4 (nI (64 * b)) (nI j) x m g h E S := by
  refine xa_has hj (fun hq => ⟨hi_in hb hj, ?_⟩) (fun hq => ?_)
  · rw [hi_rd E hb hj]
    exact nm_e (xa_wb87 hc hj (ha_p (P := fun z => J (nI (j + 1)) (vp_updL E (64 * c + j) z) S) hq hp))
  · exact xa_wb87 hc hj (ha_n (P := fun z => J (nI (j + 1)) (vp_updL E (64 * c + j) z) S) hq hp)
theorem xa_wb23 {post : SX → Prop} {a b c : Nat} {g h : Int64} {E S : Nat → Int64} (ha : a < c) (hb : b < c) (hc : c < 30) (hp : post (nI c, g, h, hr_w E c (hs_t g h E a b) 64, S)) : ∀ d j, j + d = 64 → wX_writeBranches_23 post (nI (64 * c)) (nI (64 * a)) (nI (64 * b)) (nI c) g h (d + 1) (nI j) (hr_w E c (hs_t g h E a b) j) S := by
  have ha3 : a < 30 := by omega
  have hb3 : b < 30 := by omega
  intro d
  induction d with
  | zero =>
    intro j hj
    obtain rfl : j = 64 := hj
    exact br_t (hi_le (by omega) (by omega)) hp
  | succ d ih =>
    intro j hj
    have h6 : j < 64 := by omega
    refine br_f (hi_gt h6) (xa_has h6 (fun hq => ⟨hi_in ha3 h6, ?_⟩) (fun hq => ?_))
    · rw [hi_rd (hr_w E c (hs_t g h E a b) j) ha3 h6]
      refine nm_e (xa_wb60 hb3 hc h6 ?_)
      have e : vp_updL (hr_w E c (hs_t g h E a b) j) (64 * c + j) (if hb_b h j = true then 0 ||| hr_r (hr_w E c (hs_t g h E a b) j) a j ||| hr_r (hr_w E c (hs_t g h E a b) j) b j else 0 ||| hr_r (hr_w E c (hs_t g h E a b) j) a j) = hr_w E c (hs_t g h E a b) (j + 1) := by
        rw [← hr_ws, hr_rw ha, hr_rw hb]
        congr 1
        unfold hs_t
        rw [if_pos hq]
      rw [e]
      exact ih (j + 1) (by omega)
    · refine xa_wb60 hb3 hc h6 ?_
      have e : vp_updL (hr_w E c (hs_t g h E a b) j) (64 * c + j) (if hb_b h j = true then 0 ||| hr_r (hr_w E c (hs_t g h E a b) j) b j else 0) = hr_w E c (hs_t g h E a b) (j + 1) := by
        rw [← hr_ws, hr_rw hb]
        congr 1
        unfold hs_t
        rw [hq]
        rfl
      rw [e]
      exact ih (j + 1) (by omega)
theorem xa_wb {post : SX → Prop} {a b c : Nat} {g h : Int64} {E S : Nat → Int64} (ha : a < c) (hb : b < c) (hc : c < 30) (hp : post (nI c, g, h, hr_w E c (hs_t g h E a b) 64, S)) : wpX_writeBranches post (nI c, g, h, E, S) (nI a) (nI b) := by
  have h := xa_wb23 ha hb hc hp 64 0 rfl
  rw [hr_w0] at h
  exact nm_r (hi_x c) (nm_r (hi_x a) (nm_r (hi_x b) ⟨65, h⟩))
def hu_u (g h : Int64) (S : Nat → Int64) (a b : Nat) : Int64 := (g &&& (S a ^^^ (-1))) ||| (h &&& (S b ^^^ (-1)))
theorem xa_un {post : Int64 → Prop} {a b : Nat} {m : Int32} {g h : Int64} {E S : Nat → Int64} (ha : a < 30) (hb : b < 30) (hp : post (hu_u g h S a b)) : wpX_unsureBranches post (m, g, h, E, S) (nI a) (nI b) := by
  refine ⟨hi_30 ha, hi_30 hb, ?_⟩
  rw [hi_c30 ha, hi_c30 hb]
  exact hp
-- X: the loop's closure
def hk_p (T : Nat → Int64) (m j : Nat) : Nat → Int64 := fun i => if i < j then hk_c T m i else T i
theorem hk_pj {T : Nat → Int64} {m j : Nat} : hk_p T m j j = T j := if_neg (by omega)
theorem hk_ps {T : Nat → Int64} {m j : Nat} {w : Int64} (hw : w = hk_c T m j) : (fun i => if i = j then w else hk_p T m j i) = hk_p T m (j + 1) := by
  funext i
  show (if i = j then w else hk_p T m j i) = hk_p T m (j + 1) i
  unfold hk_p
  by_cases e : i = j
  · subst e
    rw [if_pos rfl, if_pos (by omega), hw]
  · rw [if_neg e]
    by_cases h : i < j
    · rw [if_pos h, if_pos (by omega)]
    · rw [if_neg h, if_neg (by omega)]
theorem hk_pn {T : Nat → Int64} {m j : Nat} (hw : T j = hk_c T m j) : hk_p T m j = hk_p T m (j + 1) := by
  rw [← hk_ps hw]
  funext i
  show hk_p T m j i = if i = j then T j else hk_p T m j i
  by_cases e : i = j
  · subst e; rw [if_pos rfl, hk_pj]
  · rw [if_neg e]
theorem xa_cs28 {post : SX → Prop} {J : Int32 → (Nat → Int64) → (Nat → Int64) → Prop} {mm : Int32} {c m : Nat} {g h : Int64} {E S T : Nat → Int64} (hc : c < 30) (hm : m < 64) (hp : J (nI (m + 1)) (hr_w E c (hk_c T m) 64) S) : ∀ d j, j + d = 64 → wX_closeSteps_28 post J (nI (64 * c)) (nI m) (T m) mm g h (d + 1) (nI j) (hr_w E c (hk_p T m j) 64) S := by
  intro d
  induction d with
  | zero =>
    intro j hj
    obtain rfl : j = 64 := hj
    refine br_t (hi_le (by omega) (by omega)) (nm_r (nI_1 m) ?_)
    rw [hr_wc (T := hk_p T m 64) (T' := hk_c T m) (fun s hs => if_pos hs)]
    exact hp
  | succ d ih =>
    intro j hj
    have h6 : j < 64 := by omega
    refine br_f (hi_gt h6) ⟨hi_in hc h6, ?_⟩
    rw [hi_cl hc h6, hr_wv h6, hk_pj]
    refine xa_has hm (fun hq => ⟨hi_in hc h6, hi_in hc h6, nm_r ?_ (nm_r (nI_1 j) (ih (j + 1) (by omega)))⟩) (fun hq => nm_r (nI_1 j) ?_)
    · rw [hr_wu h6, hk_ps]
      exact (if_pos hq).symm
    · rw [hk_pn]
      · exact ih (j + 1) (by omega)
      · exact (if_neg (by rw [hq]; decide)).symm
theorem xa_cs10 {post : SX → Prop} {c : Nat} {mm : Int32} {g h : Int64} {E S T : Nat → Int64} (hc : c < 30) (hp : post (mm, g, h, hr_w E c (hk_k T 64) 64, S)) : ∀ d m, m + d = 64 → wX_closeSteps_10 post (nI (64 * c)) mm g h (d + 1) (nI m) (hr_w E c (hk_k T m) 64) S := by
  intro d
  induction d with
  | zero =>
    intro m hm
    obtain rfl : m = 64 := hm
    exact br_t (hi_le (by omega) (by omega)) hp
  | succ d ih =>
    intro m hm
    have h6 : m < 64 := by omega
    refine br_f (hi_gt h6) ⟨hi_in hc h6, nm_r (e' := hk_k T m m) (by rw [hi_cl hc h6, hr_wv h6]) ⟨65, ?_⟩⟩
    have e : hk_p (hk_k T m) m 0 = hk_k T m := funext fun i => if_neg (by omega)
    have z := xa_cs28 (post := post) (J := wX_closeSteps_10 post (nI (64 * c)) mm g h (d + 1)) (mm := mm) (g := g) (h := h) (E := E) (S := S) (T := hk_k T m) hc h6 (ih (m + 1) (by omega)) 64 0 rfl
    rw [e] at z
    exact z
theorem xa_cs {post : SX → Prop} {c : Nat} {g h : Int64} {E S T : Nat → Int64} (hc : c < 30) (hp : post (nI c, g, h, hr_w E c (hk_k T 64) 64, S)) : wpX_closeSteps post (nI c, g, h, hr_w E c T 64, S) :=
  nm_r (hi_x c) ⟨65, xa_cs10 (T := T) hc hp 64 0 rfl⟩
def hk_rc (R : Nat → Int64) : Nat → Bool := fun s => hb_b (R s) s
theorem xa_ret0 {post : Int64 → Prop} {b : Nat} {m : Int32} {g h : Int64} {E S : Nat → Int64} (hb : b < 30) : ∀ d j a, j + d = 64 → post (hb_fo (hk_rc (hr_r E b)) d j a) → wX_statesThatReturn_13 post (nI (64 * b)) m g h E S (d + 1) a (nI j) := by
  intro d
  induction d with
  | zero => intro j a hj hp; exact br_t (hi_le (by omega) (by omega)) hp
  | succ d ih =>
    intro j a hj hp
    have h6 : j < 64 := by omega
    refine br_f (hi_gt h6) ⟨hi_in hb h6, ?_⟩
    rw [hi_rd E hb h6]
    refine xa_has h6 (fun hq => ?_) (fun hq => ?_)
    · exact nm_e (nm_r (nI_1 j) (ih (j + 1) _ (by omega) (ha_p (P := fun z => post (hb_fo (hk_rc (hr_r E b)) d (j + 1) z)) hq hp)))
    · exact nm_r (nI_1 j) (ih (j + 1) _ (by omega) (ha_n (P := fun z => post (hb_fo (hk_rc (hr_r E b)) d (j + 1) z)) hq hp))
theorem xa_ret {post : Int64 → Prop} {c : Nat} {g h : Int64} {E S : Nat → Int64} (hc : c < 30) (hp : post (hb_set (hk_rc (hr_r E c)))) : wpX_statesThatReturn post (nI c, g, h, E, S) := nm_r (hi_x c) ⟨65, xa_ret0 hc 64 0 0 rfl hp⟩
theorem xa_avoid {post : Int64 → Prop} {c : Nat} {q g h : Int64} {E S : Nat → Int64} (hc : c < 30) (hp : post (hb_set (hw_c (hr_r E c) (q ^^^ (-1))) &&& (q ^^^ (-1)))) : wpX_statesThatAvoid post (nI c, g, h, E, S) q := xa_only hc hp
def hk_o (K : Nat → Int64) (w : Int64) : Nat → Int64 := fun s => (K s ||| hb_o s) &&& w
def hk_q (K : Nat → Int64) (w : Int64) (j : Nat) : Nat → Int64 := fun i => if i < j then hk_o K w i else K i
theorem xa_ko0 {post : SX → Prop} {c : Nat} {mm : Int32} {g h w : Int64} {E S K : Nat → Int64} (hc : c < 30) (hp : post (mm, g, h, hr_w E c (hk_o K w) 64, S)) : ∀ d j, j + d = 64 → wX_keepOnlyWayOut_25 post (nI (64 * c)) w mm g h (d + 1) (nI j) (hr_w E c (hk_q K w j) 64) S := by
  intro d
  induction d with
  | zero =>
    intro j hj
    obtain rfl : j = 64 := hj
    refine br_t (hi_le (by omega) (by omega)) ?_
    rw [hr_wc (T := hk_q K w 64) (T' := hk_o K w) (fun s hs => if_pos hs)]
    exact hp
  | succ d ih =>
    intro j hj
    have h6 : j < 64 := by omega
    refine br_f (hi_gt h6) ⟨hi_in hc h6, hi_in hc h6, nm_r ?_ (nm_r (nI_1 j) (ih (j + 1) (by omega)))⟩
    rw [hi_cl hc h6, hr_wv h6, hr_wu h6]
    refine hr_wc fun i _ => ?_
    show (if i = j then (hk_q K w j j ||| hb_o j) &&& w else hk_q K w j i) = hk_q K w (j + 1) i
    unfold hk_q
    by_cases e : i = j
    · subst e
      rw [if_pos rfl, if_neg (by omega), if_pos (by omega)]
      rfl
    · rw [if_neg e]
      by_cases h : i < j
      · rw [if_pos h, if_pos (by omega)]
      · rw [if_neg h, if_neg (by omega)]
theorem xa_ko {post : SX → Prop} {c : Nat} {g h : Int64} {E S K : Nat → Int64} (hc : c < 30) (hp : post (nI c, g, h, hr_w E c (hk_o K ((g ||| h) ^^^ (-1))) 64, S)) : wpX_keepOnlyWayOut post (nI c, g, h, hr_w E c K 64, S) := by
  have z := xa_ko0 (K := K) (w := (g ||| h) ^^^ (-1)) hc hp 64 0 rfl
  rw [show hk_q K ((g ||| h) ^^^ (-1)) 0 = K from funext fun i => if_neg (by omega)] at z
  exact nm_r (hi_x c) (nm_e ⟨65, z⟩)
