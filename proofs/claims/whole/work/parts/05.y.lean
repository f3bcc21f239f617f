-- Y: bits, sizes, subsets
theorem ya_in {A B : Prop} {u : SY} {x : Int64} {j : Nat} (hj : j < 64) (h1 : hb_b x j = true → B) (h0 : hb_b x j = false → A) : wpY_in (fun r => (r = 0 → A) ∧ (¬ r = 0 → B)) u x (nI j) := by
  obtain ⟨g, h, c, E, S⟩ := u
  exact ⟨fun z => br_f (by decide) (h1 ((hb_iy hj).mp z)), fun z => br_t rfl (h0 (ts_nt fun w => z ((hb_iy hj).mpr w)))⟩
theorem ya_part {A B : Prop} {u : SY} {x y : Int64} (h1 : (x &&& (y ^^^ (-1))) = 0 → B) (h0 : ¬ (x &&& (y ^^^ (-1))) = 0 → A) : wpY_part (fun r => (r = 0 → A) ∧ (¬ r = 0 → B)) u x y := by
  obtain ⟨g, h, c, E, S⟩ := u
  exact ⟨fun z => br_f (by decide) (h1 z), fun z => br_t rfl (h0 z)⟩
theorem ya_size0 {post : Int32 → Prop} {x g h : Int64} {c : Int32} {E S : Nat → Int64} : ∀ d j a, j + d = 64 → post (hb_sz x d j a) → wY_size_5 post x g h c E S (d + 1) a (nI j) := by
  intro d
  induction d with
  | zero => intro j a hj hp; exact br_t (hi_le (by omega) (by omega)) hp
  | succ d ih =>
    intro j a hj hp
    refine br_f (hi_gt (by omega)) (ya_in (by omega) (fun hb => ?_) (fun hb => ?_))
    · exact nm_e (nm_r (nI_1 j) (ih (j + 1) _ (by omega) (ha_p (P := fun z => post (hb_sz x d (j + 1) z)) hb hp)))
    · exact nm_r (nI_1 j) (ih (j + 1) _ (by omega) (ha_n (P := fun z => post (hb_sz x d (j + 1) z)) hb hp))
theorem ya_size {post : Int32 → Prop} {u : SY} {x : Int64} (hp : post (hb_sz x 64 0 0)) : wpY_size post u x := by
  obtain ⟨g, h, c, E, S⟩ := u
  exact ⟨65, ya_size0 64 0 0 rfl hp⟩
theorem ya_keep1 {post : Int32 → SY → Prop} {g h q : Int64} {c : Int32} {E S : Nat → Int64} {w : Int32} (hw : w = 0) (hp : post (hb_sz q 64 0 0) (q, h, c, E, S)) : wpY_keep post (g, h, c, E, S) w q := br_t hw (ya_size hp)
theorem ya_keep2 {post : Int32 → SY → Prop} {g h q : Int64} {c : Int32} {E S : Nat → Int64} {w : Int32} (hw : ¬ w = 0) (hp : post (hb_sz q 64 0 0) (g, q, c, E, S)) : wpY_keep post (g, h, c, E, S) w q := br_f hw (ya_size hp)
-- Y: forms
theorem hv_d8 {n : Nat} (h : n < 1000) : nI n / 8 = nI (n / 8) := pk_div (d := 8) (by omega) (by decide) (by decide)
theorem hv_r8 {n : Nat} (h : n < 1000) : nI n - nI n / 8 * 8 = nI (n % 8) := pk_rem (d := 8) (by omega) (by decide) (by decide)
theorem ya_worth {post : Int32 → Prop} {u : SY} {f s : Nat} (hf : f < 512) (hs : s < 64) (hp : post (nI (hv_v f s))) : wpY_worth post u (nI f) (nI s) := by
  obtain ⟨g, h, c, E, S⟩ := u
  have h64 : nI f / 64 = nI (f / 64) := pk_div (d := 64) (by omega) (by decide) (by decide)
  have e : ((((nI f / 64) * (nI s / 8)) + (((nI f / 8) - (nI f / 8) / 8 * 8) * (nI s - nI s / 8 * 8))) + (nI f - nI f / 8 * 8)) = nI (f / 64 * (s / 8) + f / 8 % 8 * (s % 8) + f % 8) := by
    rw [hv_r8 (n := s) (by omega), hv_r8 (n := f) (by omega), hv_d8 (n := s) (by omega), hv_d8 (n := f) (by omega), hv_r8 (n := f / 8) (by omega), h64, pk_mul, pk_mul, nI_add, nI_add]
  refine ⟨by decide, by decide, by decide, by decide, by decide, by decide, by decide, ?_⟩
  rw [e, hv_r8 (hv_bd hf hs)]
  exact hp
theorem ya_cmp0 {post : Int32 → SY → Prop} {w b : Int32} {f : Nat} {g h : Int64} {c : Int32} {E S : Nat → Int64} (hf : f < 512) : ∀ d j a, j + d = 64 → wpY_keep post (g, h, c, E, S) w (hb_fo (hv_c f b) d j a) → wY_compare_32 post w (nI f) b g h c E S (d + 1) a (nI j) := by
  intro d
  induction d with
  | zero => intro j a hj hp; exact br_t (hi_le (by omega) (by omega)) hp
  | succ d ih =>
    intro j a hj hp
    refine br_f (hi_gt (by omega)) (ya_worth hf (by omega) (br_c (fun hb => ?_) (fun hb => ?_)))
    · exact nm_r (nI_1 j) (ih (j + 1) _ (by omega) (ha_n (P := fun z => wpY_keep post (g, h, c, E, S) w (hb_fo (hv_c f b) d (j + 1) z)) (decide_eq_false (not_not_intro hb)) hp))
    · exact nm_e (nm_r (nI_1 j) (ih (j + 1) _ (by omega) (ha_p (P := fun z => wpY_keep post (g, h, c, E, S) w (hb_fo (hv_c f b) d (j + 1) z)) (decide_eq_true hb) hp)))
-- Y: skip and fail
theorem hi_3 {c : Nat} (hc : c < 30) : ¬ (30 : Int32) ≤ nI c := nI_ge (b := 30) hc (by decide)
theorem ya_p72 {post : Int32 → SY → Prop} {c : Nat} {w g h : Int64} {E S : Nat → Int64} (hc : c < 30) (hp : post (nI c) (g, h, nI (c + 1), E, vp_updL S c w)) : vp_in (nI c) 30 ∧ ∀ s2, s2 = vp_updL S (nI c).toNatClampNeg w → ∀ c2, c2 = nI c + 1 → post (nI c) (g, h, c2, E, s2) :=
  ⟨hi_30 hc, nm_r (by rw [hi_c30 hc]) (nm_r (nI_1 c) hp)⟩
theorem ya_pl1 {post : Int32 → SY → Prop} {c : Nat} {g h : Int64} {E S : Nat → Int64} (hc : c < 30) (hp : post (nI c) (g, h, nI (c + 1), hr_w E c hb_o 64, vp_updL S c (-1))) : ∀ d j, j + d = 64 → wY_plain_16 post 1 (nI c) g h (nI c) (d + 1) (nI j) (hr_w E c hb_o j) S := by
  intro d
  induction d with
  | zero =>
    intro j hj
    obtain rfl : j = 64 := hj
    exact br_t (hi_le (by omega) (by omega)) (br_f (by decide) (ya_p72 hc hp))
  | succ d ih =>
    intro j hj
    have h6 : j < 64 := by omega
    exact br_f (hi_gt h6) (br_f (hi_3 hc) (br_f (by decide) ⟨hi_iny hc h6, nm_r (hi_upy hc h6 rfl) (nm_r (nI_1 j) (ih (j + 1) (by omega)))⟩))
theorem ya_pl0 {post : Int32 → SY → Prop} {c : Nat} {g h : Int64} {E S : Nat → Int64} (hc : c < 30) (hp : post (nI c) (g, h, nI (c + 1), hr_w E c (fun _ => 0) 64, vp_updL S c 0)) : ∀ d j, j + d = 64 → wY_plain_16 post 0 (nI c) g h (nI c) (d + 1) (nI j) (hr_w E c (fun _ => 0) j) S := by
  intro d
  induction d with
  | zero =>
    intro j hj
    obtain rfl : j = 64 := hj
    exact br_t (hi_le (by omega) (by omega)) (br_t rfl (ya_p72 hc hp))
  | succ d ih =>
    intro j hj
    have h6 : j < 64 := by omega
    exact br_f (hi_gt h6) (br_f (hi_3 hc) (br_t rfl ⟨hi_iny hc h6, nm_r (hi_upy hc h6 rfl) (nm_r (nI_1 j) (ih (j + 1) (by omega)))⟩))
-- Y: assign
theorem ya_as76 {post : Int32 → SY → Prop} {J : Int32 → (Nat → Int64) → (Nat → Int64) → Prop} {x1 x2 z m : Int32} {c j : Nat} {g h : Int64} {E S : Nat → Int64} {F : Nat → Int64} (hc : c < 30) (hj : j < 64) (hz : (1 : Int64) <<< (z.toInt64 &&& 63) = F j) (hp : J (nI (j + 1)) (hr_w E c F (j + 1)) S) : wY_assign_76 post J x1 x2 (nI c) (nI j) z g h m (hr_w E c F j) S :=
  ⟨hi_iny hc hj, nm_r (hi_upy hc hj hz) (nm_r (nI_1 j) hp)⟩
theorem ya_assign0 {post : Int32 → SY → Prop} {w : Int32} {f c : Nat} {g h : Int64} {E S : Nat → Int64} (hf : f < 512) (hc : c < 30) (hp : post (nI c) (g, h, nI (c + 1), hr_w E c (hv_f w f) 64, vp_updL S c (-1))) : ∀ d j, j + d = 64 → wY_assign_31 post w (nI f) (nI c) g h (nI c) (d + 1) (nI j) (hr_w E c (hv_f w f) j) S := by
  intro d
  induction d with
  | zero =>
    intro j hj
    obtain rfl : j = 64 := hj
    exact br_t (hi_le (by omega) (by omega)) (ya_p72 hc hp)
  | succ d ih =>
    intro j hj
    have h6 : j < 64 := by omega
    refine br_f (hi_gt h6) (ya_worth hf h6 (br_c (fun hw => ⟨by decide, ya_as76 hc h6 ?_ (ih (j + 1) (by omega))⟩) (fun hw => ⟨by decide, ya_as76 hc h6 ?_ (ih (j + 1) (by omega))⟩)))
    · rw [hv_r8 (by omega), hv_8, nI_add]
      unfold hv_f hb_o hv_a
      rw [if_pos hw]
    · rw [hv_d8 (by omega), hv_8, nI_add]
      unfold hv_f hb_o hv_a
      rw [if_neg hw]
-- Y: rows
theorem ya_from0 {post : Int64 → Prop} {q : Int64} {b : Nat} {m : Int32} {g h : Int64} {E S : Nat → Int64} (hb : b < 30) : ∀ d j a, j + d = 64 → post (hb_fr (hr_r E b) q d j a) → wY_from_6 post (nI b) q g h m E S (d + 1) a (nI j) := by
  intro d
  induction d with
  | zero => intro j a hj hp; exact br_t (hi_le (by omega) (by omega)) hp
  | succ d ih =>
    intro j a hj hp
    have h6 : j < 64 := by omega
    refine br_f (hi_gt h6) (ya_in h6 (fun hq => ⟨hi_iny hb h6, ?_⟩) (fun hq => ?_))
    · rw [hi_rdy E hb h6]
      exact nm_e (nm_r (nI_1 j) (ih (j + 1) _ (by omega) (ha_p (P := fun z => post (hb_fr (hr_r E b) q d (j + 1) z)) hq hp)))
    · exact nm_r (nI_1 j) (ih (j + 1) _ (by omega) (ha_n (P := fun z => post (hb_fr (hr_r E b) q d (j + 1) z)) hq hp))
theorem ya_from {post : Int64 → Prop} {q : Int64} {b : Nat} {m : Int32} {g h : Int64} {E S : Nat → Int64} (hb : b < 30) (hp : post (hb_im (hr_r E b) q)) : wpY_from post (g, h, m, E, S) (nI b) q := ⟨65, ya_from0 hb 64 0 0 rfl hp⟩
theorem ya_weak0 {post : Int64 → Prop} {q : Int64} {b : Nat} {m : Int32} {g h : Int64} {E S : Nat → Int64} (hb : b < 30) : ∀ d j a, j + d = 64 → post (hb_fo (hw_c (hr_r E b) q) d j a) → wY_weak_6 post (nI b) q g h m E S (d + 1) a (nI j) := by
  intro d
  induction d with
  | zero => intro j a hj hp; exact br_t (hi_le (by omega) (by omega)) hp
  | succ d ih =>
    intro j a hj hp
    have h6 : j < 64 := by omega
    refine br_f (hi_gt h6) ⟨hi_iny hb h6, ?_⟩
    rw [hi_rdy E hb h6]
    refine ya_part (fun hq => ?_) (fun hq => ?_)
    · exact nm_e (nm_r (nI_1 j) (ih (j + 1) _ (by omega) (ha_p (P := fun z => post (hb_fo (hw_c (hr_r E b) q) d (j + 1) z)) (decide_eq_true hq) hp)))
    · exact nm_r (nI_1 j) (ih (j + 1) _ (by omega) (ha_n (P := fun z => post (hb_fo (hw_c (hr_r E b) q) d (j + 1) z)) (decide_eq_false hq) hp))
theorem ya_weak {post : Int64 → Prop} {q : Int64} {b : Nat} {m : Int32} {g h : Int64} {E S : Nat → Int64} (hb : b < 30) (hp : post (hb_set (hw_c (hr_r E b) q))) : wpY_weak post (g, h, m, E, S) (nI b) q := ⟨65, ya_weak0 hb 64 0 0 rfl hp⟩
-- Y: sequence
def hq_c (E S : Nat → Int64) (a b : Nat) : Nat → Bool := fun s => hb_b (S a) s && hw_c (hr_r E a) (S b) s
theorem hq_c1 {E S : Nat → Int64} {a b s : Nat} (h1 : hb_b (S a) s = true) (h2 : (hr_r E a s &&& (S b ^^^ (-1))) = 0) : hq_c E S a b s = true := by
  unfold hq_c hw_c
  rw [h1, decide_eq_true h2]
  rfl
theorem hq_c2 {E S : Nat → Int64} {a b s : Nat} (h1 : hb_b (S a) s = false) : hq_c E S a b s = false := by
  unfold hq_c
  rw [h1]
  rfl
theorem hq_c3 {E S : Nat → Int64} {a b s : Nat} (h2 : ¬ (hr_r E a s &&& (S b ^^^ (-1))) = 0) : hq_c E S a b s = false := by
  unfold hq_c hw_c
  rw [decide_eq_false h2, Bool.and_false]
theorem ya_seq0 {post : Int32 → SY → Prop} {a b c : Nat} {g h : Int64} {E S : Nat → Int64} (ha : a < c) (hb : b < c) (hc : c < 30) : ∀ d j x, j + d = 64 → post (nI c) (g, h, nI (c + 1), hr_w E c (hq_f E a b) 64, vp_updL S c (hb_fo (hq_c E S a b) d j x)) → wY_sequence_39 post (nI a) (nI b) (nI c) g h (nI c) (d + 1) x (nI j) (hr_w E c (hq_f E a b) j) S := by
  have ha3 : a < 30 := by omega
  have hb3 : b < 30 := by omega
  intro d
  induction d with
  | zero =>
    intro j x hj hp
    obtain rfl : j = 64 := hj
    exact br_t (hi_le (by omega) (by omega)) (ya_p72 hc hp)
  | succ d ih =>
    intro j x hj hp
    have h6 : j < 64 := by omega
    have hp2 : post (nI c) (g, h, nI (c + 1), hr_w E c (hq_f E a b) 64, vp_updL S c (hb_fo (hq_c E S a b) d (j + 1) (if hq_c E S a b j = true then x ||| hb_o j else x))) := hp
    have er : hr_w E c (hq_f E a b) j ((64 * nI a) + nI j).toNatClampNeg = hr_r E a j := by
      rw [hi_rdy (hr_w E c (hq_f E a b) j) ha3 h6, hr_rw ha]
    refine br_f (hi_gt h6) ⟨hi_iny ha3 h6, nm_r er (ya_from hb3 ⟨hi_iny hc h6, nm_r (hi_upy (F := hq_f E a b) hc h6 ?_) ⟨hi_30 ha3, ?_⟩⟩)⟩
    · rw [hr_rw hb]
      rfl
    · rw [hi_c30 ha3, hi_c30 hb3]
      refine ya_in h6 (fun h1 => ⟨hi_30 hb3, ya_part (fun h2 => ?_) (fun h2 => ?_)⟩) (fun h1 => ?_)
      · rw [if_pos (hq_c1 h1 h2)] at hp2
        exact nm_e (nm_r (nI_1 j) (ih (j + 1) _ (by omega) hp2))
      · rw [hq_c3 h2] at hp2
        exact nm_r (nI_1 j) (ih (j + 1) _ (by omega) hp2)
      · rw [hq_c2 h1] at hp2
        exact nm_r (nI_1 j) (ih (j + 1) _ (by omega) hp2)
-- Y: step and good
theorem ya_st31 {post : Int64 → Prop} {b s : Nat} {x g h : Int64} {m : Int32} {E S : Nat → Int64} (hb : b < 30) (hs : s < 64) (hp : post (if hb_b h s = true then x ||| hr_r E b s else x)) : wY_step_31 post (nI b) (nI s) x g h m E S := by
  refine ya_in hs (fun hq => ⟨hi_iny hb hs, ?_⟩) (fun hq => ?_)
  · rw [hi_rdy E hb hs]
    exact nm_e (ha_p (P := post) hq hp)
  · exact ha_n (P := post) hq hp
theorem ya_step {post : Int64 → Prop} {a b s : Nat} {g h : Int64} {m : Int32} {E S : Nat → Int64} (ha : a < 30) (hb : b < 30) (hs : s < 64) (hp : post (hs_t g h E a b s)) : wpY_step post (g, h, m, E, S) (nI a) (nI b) (nI s) := by
  unfold hs_t at hp
  refine ya_in (u := (g, h, m, E, S)) hs (fun hq => ⟨hi_iny ha hs, ?_⟩) (fun hq => ?_)
  · rw [hi_rdy E ha hs]
    rw [if_pos hq] at hp
    exact nm_e (ya_st31 hb hs hp)
  · rw [hq] at hp
    exact ya_st31 hb hs hp
def hg_g (g h : Int64) (S : Nat → Int64) (a b : Nat) : Nat → Bool := fun s => (!hb_b g s || hb_b (S a) s) && (!hb_b h s || hb_b (S b) s)
theorem ya_good26 {A B : Prop} {b s : Nat} {g h : Int64} {m : Int32} {E S : Nat → Int64} (hb : b < 30) (hs : s < 64) (h1 : (!hb_b h s || hb_b (S b) s) = true → B) (h0 : (!hb_b h s || hb_b (S b) s) = false → A) : wY_good_26 (fun r => (r = 0 → A) ∧ (¬ r = 0 → B)) (nI b) (nI s) g h m E S := by
  refine ya_in hs (fun hq => ⟨hi_30 hb, ?_⟩) (fun hq => br_f (by decide) (h1 (by rw [hq]; rfl)))
  rw [hi_c30 hb]
  exact ya_in hs (fun hz => br_f (by decide) (h1 (by rw [hz, Bool.or_true]))) (fun hz => br_t rfl (h0 (by rw [hq, hz]; rfl)))
theorem ya_good {A B : Prop} {a b s : Nat} {g h : Int64} {m : Int32} {E S : Nat → Int64} (ha : a < 30) (hb : b < 30) (hs : s < 64) (h1 : hg_g g h S a b s = true → B) (h0 : hg_g g h S a b s = false → A) : wpY_good (fun r => (r = 0 → A) ∧ (¬ r = 0 → B)) (g, h, m, E, S) (nI a) (nI b) (nI s) := by
  unfold hg_g at h1 h0
  refine ya_in (u := (g, h, m, E, S)) hs (fun hq => ⟨hi_30 ha, ?_⟩) (fun hq => ?_)
  · rw [hi_c30 ha]
    refine ya_in hs (fun hz => ?_) (fun hz => br_t rfl (h0 (by rw [hq, hz]; rfl)))
    rw [hz, Bool.or_true, Bool.true_and] at h1 h0
    exact ya_good26 hb hs h1 h0
  · rw [hq, Bool.not_false, Bool.true_or, Bool.true_and] at h1 h0
    exact ya_good26 hb hs h1 h0
-- Y: choice
def hg_c (g h : Int64) (S : Nat → Int64) (a b : Nat) : Nat → Bool := fun s => hb_b (g ||| h) s && hg_g g h S a b s
theorem hg_c1 {g h : Int64} {S : Nat → Int64} {a b s : Nat} (h1 : hb_b (g ||| h) s = true) (h2 : hg_g g h S a b s = true) : hg_c g h S a b s = true := by
  unfold hg_c; rw [h1, h2]; rfl
theorem hg_c2 {g h : Int64} {S : Nat → Int64} {a b s : Nat} (h1 : hb_b (g ||| h) s = false) : hg_c g h S a b s = false := by
  unfold hg_c; rw [h1]; rfl
theorem hg_c3 {g h : Int64} {S : Nat → Int64} {a b s : Nat} (h2 : hg_g g h S a b s = false) : hg_c g h S a b s = false := by
  unfold hg_c; rw [h2, Bool.and_false]
theorem ya_ch0 {post : Int32 → SY → Prop} {a b c : Nat} {g h : Int64} {E S : Nat → Int64} (ha : a < c) (hb : b < c) (hc : c < 30) : ∀ d j x, j + d = 64 → post (nI c) (g, h, nI (c + 1), hr_w E c (hs_t g h E a b) 64, vp_updL S c (hb_fo (hg_c g h S a b) d j x)) → wY_choice_39 post (nI a) (nI b) (nI c) g h (nI c) (d + 1) x (nI j) (hr_w E c (hs_t g h E a b) j) S := by
  have ha3 : a < 30 := by omega
  have hb3 : b < 30 := by omega
  intro d
  induction d with
  | zero =>
    intro j x hj hp
    obtain rfl : j = 64 := hj
    exact br_t (hi_le (by omega) (by omega)) (ya_p72 hc hp)
  | succ d ih =>
    intro j x hj hp
    have h6 : j < 64 := by omega
    have hp2 : post (nI c) (g, h, nI (c + 1), hr_w E c (hs_t g h E a b) 64, vp_updL S c (hb_fo (hg_c g h S a b) d (j + 1) (if hg_c g h S a b j = true then x ||| hb_o j else x))) := hp
    refine br_f (hi_gt h6) (ya_step ha3 hb3 h6 ⟨hi_iny hc h6, nm_r (hi_upy (F := hs_t g h E a b) hc h6 ?_) ?_⟩)
    · rw [hs_tw ha hb]
    · refine ya_in h6 (fun h1 => ya_good ha3 hb3 h6 (fun h2 => ?_) (fun h2 => ?_)) (fun h1 => ?_)
      · rw [if_pos (hg_c1 h1 h2)] at hp2
        exact nm_e (nm_r (nI_1 j) (ih (j + 1) _ (by omega) hp2))
      · rw [hg_c3 h2] at hp2
        exact nm_r (nI_1 j) (ih (j + 1) _ (by omega) hp2)
      · rw [hg_c2 h1] at hp2
        exact nm_r (nI_1 j) (ih (j + 1) _ (by omega) hp2)
