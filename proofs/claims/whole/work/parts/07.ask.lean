-- refusals
theorem xg_good {P : Int32 → Prop} {a c : Nat} {g h : Int64} {E S : Nat → Int64} (ha : a < c) (hc : c ≤ 30) (hp : P 1) : wpX_isGood P (nI c, g, h, E, S) (nI a) := br_f (nI_pos (by omega)) (br_f (nI_ge ha (by omega)) hp)
theorem xg_bad {P : Int32 → Prop} {v m : Int32} {g h : Int64} {E S : Nat → Int64} (hv : v < 0 ∨ m ≤ v) (hp : P 0) : wpX_isGood P (m, g, h, E, S) v := br_c (fun _ => hp) (fun z => br_t (hv.elim (fun w => absurd w z) id) hp)
theorem yg_good {P : Int32 → Prop} {a c : Nat} {g h : Int64} {E S : Nat → Int64} (ha : a < c) (hc : c ≤ 30) (hp : P 0) : wpY_bad P (g, h, nI c, E, S) (nI a) := br_f (nI_pos (by omega)) (br_f (nI_ge ha (by omega)) (br_t (nI_le (b := 29) (by omega) (by decide)) hp))
theorem yg_bad {P : Int32 → Prop} {v m : Int32} {g h : Int64} {E S : Nat → Int64} (hv : v < 0 ∨ m ≤ v) (hp : P 1) : wpY_bad P (g, h, m, E, S) v := br_c (fun _ => hp) (fun z => br_t (hv.elim (fun w => absurd w z) id) hp)
theorem xg_free {P : Int32 → Prop} {c : Nat} {g h : Int64} {E S : Nat → Int64} (hc : c < 30) (hp : P 0) : wpX_isFull P (nI c, g, h, E, S) := br_t (nI_lt (b := 30) hc (by decide)) hp
theorem xg_full {P : Int32 → Prop} {g h : Int64} {E S : Nat → Int64} (hp : P 1) : wpX_isFull P (nI 30, g, h, E, S) := br_f (by decide) hp
theorem yg_free {P : Int32 → Prop} {c : Nat} {g h : Int64} {E S : Nat → Int64} (hc : c < 30) (hp : P 0) : wpY_full P (g, h, nI c, E, S) := br_t (nI_le (b := 29) (by omega) (by decide)) hp
theorem yg_full {P : Int32 → Prop} {g h : Int64} {E S : Nat → Int64} (hp : P 1) : wpY_full P (g, h, nI 30, E, S) := br_f (by decide) hp
theorem vg_or (v : Int32) {c : Nat} (hc : c ≤ 30) : (v < 0 ∨ nI c ≤ v) ∨ ∃ a, a < c ∧ v = nI a := by
  rcases pk_ix v (n := c) (by omega) with h | h | h
  · exact Or.inl (Or.inl h)
  · exact Or.inl (Or.inr h)
  · exact Or.inr h
-- values that both sides reach by other ways
theorem hq_eq {E S : Nat → Int64} {a b : Nat} : S a &&& hb_set (hw_c (hr_r E a) (S b)) = hb_set (hq_c E S a b) := by
  refine hb_ext fun i hi => ?_
  rw [hb_and, hb_set_b hi, hb_set_b hi]
  rfl
theorem hg_eq {g h : Int64} {S : Nat → Int64} {a b : Nat} : (g ||| h) &&& (hu_u g h S a b ^^^ (-1)) = hb_set (hg_c g h S a b) := by
  refine hb_ext fun i hi => ?_
  rw [hb_and, hb_set_b hi, hb_not hi, hu_g hi, Bool.not_not]
  rfl
theorem hl_rr {E K : Nat → Int64} {c s : Nat} (hs : s < 64) : hr_r (hr_w E c K 64) c s = K s := by
  unfold hr_r
  rw [if_pos hs]
  exact hr_wv hs
theorem hb_setc {C D : Nat → Bool} (h : ∀ s, s < 64 → C s = D s) : hb_set C = hb_set D := by
  refine hb_ext fun i hi => ?_
  rw [hb_set_b hi, hb_set_b hi, h i hi]
theorem hl_rc {E K : Nat → Int64} {c : Nat} : hb_set (hk_rc (hr_r (hr_w E c K 64) c)) = hb_set (hk_rc K) := by
  refine hb_setc fun s hs => ?_
  unfold hk_rc
  rw [hl_rr hs]
theorem hl_wc {E K : Nat → Int64} {c : Nat} {q : Int64} : hb_set (hw_c (hr_r (hr_w E c K 64) c) q) = hb_set (hw_c K q) := by
  refine hb_setc fun s hs => ?_
  unfold hw_c
  rw [hl_rr hs]
-- refines
def ho_k (E : Nat → Int64) (a b s : Nat) : Prop := (hr_r E b s &&& (hr_r E a s ^^^ (-1))) = 0
theorem xa_ref0 {post : Int32 → Prop} {a b : Nat} {m : Int32} {g h : Int64} {E S : Nat → Int64} (ha : a < 30) (hb : b < 30) (h1 : (∀ s, s < 64 → hb_b (S a) s = true → ho_k E a b s) → post 1) (h0 : ¬ (∀ s, s < 64 → hb_b (S a) s = true → ho_k E a b s) → post 0) : ∀ d j, j + d = 64 → (∀ s, s < j → hb_b (S a) s = true → ho_k E a b s) → wX_refines_56 post (nI a) (nI (64 * a)) (nI (64 * b)) m g h E S (d + 1) (nI j) := by
  intro d
  induction d with
  | zero =>
    intro j hj hd
    obtain rfl : j = 64 := hj
    exact br_t (hi_le (by omega) (by omega)) (h1 hd)
  | succ d ih =>
    intro j hj hd
    have h6 : j < 64 := by omega
    refine br_f (hi_gt h6) ⟨hi_in hb h6, hi_in ha h6, nm_r (by rw [hi_rd E ha h6, hi_rd E hb h6]) ⟨hi_30 ha, ?_⟩⟩
    rw [hi_c30 ha]
    refine xa_has h6 (fun hq => br_c (fun hz => nm_r (nI_1 j) (ih (j + 1) (by omega) fun s hs hS => ?_)) (fun hz => h0 fun z => hz (z j h6 hq))) (fun hq => nm_r (nI_1 j) (ih (j + 1) (by omega) fun s hs hS => ?_))
    · by_cases e : s = j
      · subst e; exact hz
      · exact hd s (by omega) hS
    · by_cases e : s = j
      · subst e; rw [hq] at hS; exact absurd hS (by decide)
      · exact hd s (by omega) hS
theorem ya_ref0 {post : Int32 → Prop} {a b : Nat} {m : Int32} {g h : Int64} {E S : Nat → Int64} (ha : a < 30) (hb : b < 30) (h1 : (∀ s, s < 64 → hb_b (S a) s = true → hb_b (S b) s = true ∧ ho_k E a b s) → post 1) (h0 : ¬ (∀ s, s < 64 → hb_b (S a) s = true → hb_b (S b) s = true ∧ ho_k E a b s) → post 0) : ∀ d j, j + d = 64 → (∀ s, s < j → hb_b (S a) s = true → hb_b (S b) s = true ∧ ho_k E a b s) → wY_refines_20 post (nI a) (nI b) g h m E S (d + 1) (nI j) := by
  intro d
  induction d with
  | zero =>
    intro j hj hd
    obtain rfl : j = 64 := hj
    exact br_t (hi_le (by omega) (by omega)) (h1 hd)
  | succ d ih =>
    intro j hj hd
    have h6 : j < 64 := by omega
    refine br_f (hi_gt h6) ⟨hi_30 ha, ?_⟩
    rw [hi_c30 ha, hi_c30 hb, hi_rdy E ha h6, hi_rdy E hb h6]
    refine ya_in h6 (fun hq => ⟨hi_30 hb, ya_in h6 (fun hw => ⟨hi_iny hb h6, hi_iny ha h6, ya_part (fun hz => nm_r (nI_1 j) (ih (j + 1) (by omega) fun s hs hS => ?_)) (fun hz => h0 fun z => hz (z j h6 hq).2)⟩) (fun hw => h0 fun z => ?_)⟩) (fun hq => nm_r (nI_1 j) (ih (j + 1) (by omega) fun s hs hS => ?_))
    · by_cases e : s = j
      · subst e; exact ⟨hw, hz⟩
      · exact hd s (by omega) hS
    · have := (z j h6 hq).1
      rw [hw] at this
      exact absurd this (by decide)
    · by_cases e : s = j
      · subst e; rw [hq] at hS; exact absurd hS (by decide)
      · exact hd s (by omega) hS
-- settled
def ho_s (E S : Nat → Int64) (a : Nat) (s : Nat) : Prop := hb_b (S a) s = true → hb_sz (hr_r E a s) 64 0 0 = 1
theorem xa_set0 {post : Int32 → Prop} {a : Nat} {m : Int32} {g h : Int64} {E S : Nat → Int64} (ha : a < 30) (h1 : (∀ s, s < 64 → ho_s E S a s) → post 1) (h0 : ¬ (∀ s, s < 64 → ho_s E S a s) → post 0) : ∀ d j, j + d = 64 → (∀ s, s < j → ho_s E S a s) → wX_settled_17 post (nI a) (nI (64 * a)) m g h E S (d + 1) (nI j) := by
  intro d
  induction d with
  | zero =>
    intro j hj hd
    obtain rfl : j = 64 := hj
    exact br_t (hi_le (by omega) (by omega)) (h1 hd)
  | succ d ih =>
    intro j hj hd
    have h6 : j < 64 := by omega
    refine br_f (hi_gt h6) ⟨hi_in ha h6, ?_⟩
    rw [hi_rd E ha h6, hi_c30 ha]
    refine xa_size ⟨hi_30 ha, ?_⟩
    refine xa_has h6 (fun hq => br_c (fun hz => nm_r (nI_1 j) (ih (j + 1) (by omega) fun s hs => ?_)) (fun hz => h0 fun z => hz (z j h6 hq))) (fun hq => nm_r (nI_1 j) (ih (j + 1) (by omega) fun s hs => ?_))
    · by_cases e : s = j
      · subst e; exact fun _ => hz
      · exact hd s (by omega)
    · by_cases e : s = j
      · subst e; exact fun hS => by rw [hq] at hS; exact absurd hS (by decide)
      · exact hd s (by omega)
theorem ya_set0 {post : Int32 → Prop} {a : Nat} {m : Int32} {g h : Int64} {E S : Nat → Int64} (ha : a < 30) (h1 : (∀ s, s < 64 → ho_s E S a s) → post 1) (h0 : ¬ (∀ s, s < 64 → ho_s E S a s) → post 0) : ∀ d j, j + d = 64 → (∀ s, s < j → ho_s E S a s) → wY_settled_12 post (nI a) g h m E S (d + 1) (nI j) := by
  intro d
  induction d with
  | zero =>
    intro j hj hd
    obtain rfl : j = 64 := hj
    exact br_t (hi_le (by omega) (by omega)) (h1 hd)
  | succ d ih =>
    intro j hj hd
    have h6 : j < 64 := by omega
    refine br_f (hi_gt h6) ⟨hi_30 ha, ?_⟩
    rw [hi_rdy E ha h6, hi_c30 ha]
    refine ya_in h6 (fun hq => ⟨hi_iny ha h6, ya_size (br_c (fun hz => nm_r (nI_1 j) (ih (j + 1) (by omega) fun s hs => ?_)) (fun hz => h0 fun z => hz (z j h6 hq)))⟩) (fun hq => nm_r (nI_1 j) (ih (j + 1) (by omega) fun s hs => ?_))
    · by_cases e : s = j
      · subst e; exact fun _ => hz
      · exact hd s (by omega)
    · by_cases e : s = j
      · subst e; exact fun hS => by rw [hq] at hS; exact absurd hS (by decide)
      · exact hd s (by omega)
-- widest
def hz_w (R : Nat → Int64) : Nat → Nat → Int32 → Int32
  | 0, _, x => x
  | d + 1, j, x => hz_w R d (j + 1) (if hb_sz (R j) 64 0 0 ≤ x then x else hb_sz (R j) 64 0 0)
theorem xa_wid0 {post : Int32 → Prop} {a : Nat} {m : Int32} {g h : Int64} {E S : Nat → Int64} (ha : a < 30) : ∀ d j x, j + d = 64 → post (hz_w (hr_r E a) d j x) → wX_widest_20 post (nI (64 * a)) m g h E S (d + 1) x (nI j) := by
  intro d
  induction d with
  | zero => intro j x hj hp; exact br_t (hi_le (by omega) (by omega)) hp
  | succ d ih =>
    intro j x hj hp
    have h6 : j < 64 := by omega
    have hp2 : post (hz_w (hr_r E a) d (j + 1) (if hb_sz (hr_r E a j) 64 0 0 ≤ x then x else hb_sz (hr_r E a j) 64 0 0)) := hp
    refine br_f (hi_gt h6) ⟨hi_in ha h6, ?_⟩
    rw [hi_rd E ha h6]
    refine xa_size (br_c (fun hz => ?_) (fun hz => ?_))
    · rw [if_pos hz] at hp2
      exact nm_r (nI_1 j) (ih (j + 1) _ (by omega) hp2)
    · rw [if_neg hz] at hp2
      exact nm_r (nI_1 j) (ih (j + 1) _ (by omega) hp2)
theorem ya_wid0 {post : Int32 → Prop} {a : Nat} {m : Int32} {g h : Int64} {E S : Nat → Int64} (ha : a < 30) : ∀ d j x, j + d = 64 → post (hz_w (hr_r E a) d j x) → wY_widest_14 post (nI a) g h m E S (d + 1) x (nI j) := by
  intro d
  induction d with
  | zero => intro j x hj hp; exact br_t (hi_le (by omega) (by omega)) hp
  | succ d ih =>
    intro j x hj hp
    have h6 : j < 64 := by omega
    have hp2 : post (hz_w (hr_r E a) d (j + 1) (if hb_sz (hr_r E a j) 64 0 0 ≤ x then x else hb_sz (hr_r E a j) 64 0 0)) := hp
    refine br_f (hi_gt h6) ⟨hi_iny ha h6, ?_⟩
    rw [hi_rdy E ha h6]
    refine ya_size (br_c (fun hz => ?_) (fun hz => ?_))
    · rw [if_pos hz] at hp2
      exact nm_r (nI_1 j) (ih (j + 1) _ (by omega) hp2)
    · rw [if_neg hz] at hp2
      exact nm_r (nI_1 j) (ih (j + 1) _ (by omega) hp2)
-- the writing loops from their heads
theorem xb_skip {post : Int32 → SX → Prop} {c : Nat} {g h : Int64} {E S : Nat → Int64} (hc : c < 30) (hp : post (nI c) (nI (c + 1), g, h, hr_w E c hb_o 64, vp_updL S c (-1))) : wX_skip_19 post (nI (64 * c)) (nI c) g h 65 0 E S := by
  have x := xa_skip0 hc hp 64 0 rfl
  rw [hr_w0] at x
  exact x
theorem xb_fail {post : Int32 → SX → Prop} {c : Nat} {g h : Int64} {E S : Nat → Int64} (hc : c < 30) (hp : post (nI c) (nI (c + 1), g, h, hr_w E c (fun _ => 0) 64, vp_updL S c 0)) : wX_fail_19 post (nI (64 * c)) (nI c) g h 65 0 E S := by
  have x := xa_fail0 hc hp 64 0 rfl
  rw [hr_w0] at x
  exact x
theorem xb_assign {post : Int32 → SX → Prop} {w : Int32} {f c : Nat} {g h : Int64} {E S : Nat → Int64} (hf : f < 512) (hc : c < 30) (hp : post (nI c) (nI (c + 1), g, h, hr_w E c (hv_f w f) 64, vp_updL S c (-1))) : wX_assign_30 post w (nI f) (nI (64 * c)) (nI c) g h 65 0 E S := by
  have x := xa_assign0 hf hc hp 64 0 rfl
  rw [hr_w0] at x
  exact x
theorem xb_seq {post : Int32 → SX → Prop} {a b c : Nat} {g h : Int64} {E S : Nat → Int64} (ha : a < c) (hb : b < c) (hc : c < 30) (hp : post (nI c) (nI (c + 1), g, h, hr_w E c (hq_f E a b) 64, vp_updL S c (hb_set (hq_c E S a b)))) : wX_sequence_45 post (nI a) (nI b) (nI (64 * c)) (nI (64 * a)) (nI c) g h 65 0 E S := by
  rw [← hq_eq] at hp
  have x := xa_seq0 ha hb hc hp 64 0 rfl
  rw [hr_w0] at x
  exact x
theorem yb_skip {post : Int32 → SY → Prop} {c : Nat} {g h : Int64} {E S : Nat → Int64} (hc : c < 30) (hp : post (nI c) (g, h, nI (c + 1), hr_w E c hb_o 64, vp_updL S c (-1))) : wY_plain_16 post 1 (nI c) g h (nI c) 65 0 E S := by
  have x := ya_pl1 hc hp 64 0 rfl
  rw [hr_w0] at x
  exact x
theorem yb_fail {post : Int32 → SY → Prop} {c : Nat} {g h : Int64} {E S : Nat → Int64} (hc : c < 30) (hp : post (nI c) (g, h, nI (c + 1), hr_w E c (fun _ => 0) 64, vp_updL S c 0)) : wY_plain_16 post 0 (nI c) g h (nI c) 65 0 E S := by
  have x := ya_pl0 hc hp 64 0 rfl
  rw [hr_w0] at x
  exact x
theorem yb_assign {post : Int32 → SY → Prop} {w : Int32} {f c : Nat} {g h : Int64} {E S : Nat → Int64} (hf : f < 512) (hc : c < 30) (hp : post (nI c) (g, h, nI (c + 1), hr_w E c (hv_f w f) 64, vp_updL S c (-1))) : wY_assign_31 post w (nI f) (nI c) g h (nI c) 65 0 E S := by
  have x := ya_assign0 hf hc hp 64 0 rfl
  rw [hr_w0] at x
  exact x
theorem yb_seq {post : Int32 → SY → Prop} {a b c : Nat} {g h : Int64} {E S : Nat → Int64} (ha : a < c) (hb : b < c) (hc : c < 30) (hp : post (nI c) (g, h, nI (c + 1), hr_w E c (hq_f E a b) 64, vp_updL S c (hb_set (hq_c E S a b)))) : wY_sequence_39 post (nI a) (nI b) (nI c) g h (nI c) 65 0 0 E S := by
  have x := ya_seq0 ha hb hc 64 0 0 rfl hp
  rw [hr_w0] at x
  exact x
theorem yb_ch {post : Int32 → SY → Prop} {a b c : Nat} {g h : Int64} {E S : Nat → Int64} (ha : a < c) (hb : b < c) (hc : c < 30) (hp : post (nI c) (g, h, nI (c + 1), hr_w E c (hs_t g h E a b) 64, vp_updL S c (hb_set (hg_c g h S a b)))) : wY_choice_39 post (nI a) (nI b) (nI c) g h (nI c) 65 0 0 E S := by
  have x := ya_ch0 ha hb hc 64 0 0 rfl hp
  rw [hr_w0] at x
  exact x
theorem yb_loop {post : Int32 → SY → Prop} {a b c : Nat} {g h : Int64} {E S : Nat → Int64} (ha : a < c) (hb : b < c) (hc : c < 30) (hp : post (nI c) (g, h, nI (c + 1), hr_w E c (hk_o (hk_k (hs_t g h E a b) 64) ((g ||| h) ^^^ (-1))) 64, vp_updL S c (hl_v (hk_k (hs_t g h E a b) 64) (hu_u g h S a b)))) : wY_loop_36 post (nI a) (nI b) (nI c) g h (nI c) 65 0 E S := by
  have x := ya_loop0 ha hb hc hp 64 0 rfl
  rw [hr_w0] at x
  exact x
