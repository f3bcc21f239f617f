-- Y: the states met from a state
def hm_r (T : Nat → Int64) : Nat → Nat → Int64 → Int64
  | 0, _, x => x
  | d + 1, j, x => hm_r T d (j + 1) (if hb_b x j = true then x ||| T j else x)
theorem hm_if {T : Nat → Int64} {j : Nat} {x : Int64} {i : Nat} (h : hb_b x i = true) : hb_b (if hb_b x j = true then x ||| T j else x) i = true := by
  by_cases e : hb_b x j = true
  · rw [if_pos e, hb_or, h]; rfl
  · rw [if_neg e]; exact h
theorem hm_up {T : Nat → Int64} : ∀ d j x i, hb_b x i = true → hb_b (hm_r T d j x) i = true
  | 0, _, _, _, h => h
  | d + 1, j, _, i, h => hm_up d (j + 1) _ i (hm_if h)
theorem hm_st {T : Nat → Int64} : ∀ d j x k i, j ≤ k → k < j + d → hb_b x k = true → hb_b (T k) i = true → hb_b (hm_r T d j x) i = true := by
  intro d
  induction d with
  | zero => intro j x k i h1 h2; exact absurd h2 (by omega)
  | succ d ih =>
    intro j x k i h1 h2 hk hi
    by_cases e : j = k
    · subst e
      refine hm_up d (j + 1) _ i ?_
      rw [if_pos hk, hb_or, hi, Bool.or_true]
    · exact ih (j + 1) _ k i (by omega) (by omega) (hm_if hk) hi
theorem hm_in {T : Nat → Int64} {Q : Nat → Prop} (hQ : ∀ k i, Q k → hb_b (T k) i = true → Q i) : ∀ d j x, (∀ i, hb_b x i = true → Q i) → ∀ i, hb_b (hm_r T d j x) i = true → Q i := by
  intro d
  induction d with
  | zero => intro j x h i hi; exact h i hi
  | succ d ih =>
    intro j x h i hi
    refine ih (j + 1) _ (fun k hk => ?_) i hi
    by_cases e : hb_b x j = true
    · rw [if_pos e, hb_or, Bool.or_eq_true] at hk
      exact hk.elim (h k) (hQ j k (h j e))
    · rw [if_neg e] at hk
      exact h k hk
theorem ya_met33 {post : Int64 → Prop} {J : Int64 → Int64 → Int32 → Prop} {a b r : Nat} {g h old : Int64} {m : Int32} {E S : Nat → Int64} (ha : a < 30) (hb : b < 30) : ∀ d j x, j + d = 64 → J (hm_r (hs_t g h E a b) d j x) old (nI (r + 1)) → wY_met_33 post J (nI a) (nI b) old (nI r) g h m E S (d + 1) x (nI j) := by
  intro d
  induction d with
  | zero => intro j x hj hp; exact br_t (hi_le (by omega) (by omega)) (nm_r (nI_1 r) hp)
  | succ d ih =>
    intro j x hj hp
    have h6 : j < 64 := by omega
    have hp2 : J (hm_r (hs_t g h E a b) d (j + 1) (if hb_b x j = true then x ||| hs_t g h E a b j else x)) old (nI (r + 1)) := hp
    refine br_f (hi_gt h6) (ya_in h6 (fun hq => ya_step ha hb h6 ?_) (fun hq => ?_))
    · rw [if_pos hq] at hp2
      exact nm_e (nm_r (nI_1 j) (ih (j + 1) _ (by omega) hp2))
    · rw [hq] at hp2
      exact nm_r (nI_1 j) (ih (j + 1) _ (by omega) hp2)
theorem hi_65 {r : Nat} (h : r < 65) : ¬ (65 : Int32) ≤ nI r := nI_ge (b := 65) h (by decide)
theorem hi_65' {r : Nat} (h : 65 ≤ r) (hr : r < 2 ^ 31) : (65 : Int32) ≤ nI r := nI_le (a := 65) h hr
theorem hm_end {T : Nat → Int64} {s : Nat} {x : Int64} (hs : s < 64) (h1 : hb_b x s = true) (h2 : ∀ k i, hb_b x k = true → hb_b (T k) i = true → hb_b x i = true) (h3 : ∀ i, hb_b x i = true → s = i ∨ hb_b (hk_k T 64 s) i = true) : x = hk_k T 64 s ||| hb_o s := by
  refine hb_ext fun i hi => ?_
  rw [hb_or, hb_ob hs]
  cases hx : hb_b x i with
  | true =>
    rcases h3 i hx with e | e
    · rw [decide_eq_true e, Bool.or_true]
    · rw [e]; rfl
  | false =>
    have hk : hb_b (hk_k T 64 s) i = false := by
      refine ts_nt fun hk => ?_
      have := hk_least (T := T) (Q := fun k i => hb_b x k = true → hb_b x i = true) (fun k i h hk => h2 k i hk h) (fun _ _ _ p q z => q (p z)) 64 s i hk h1
      rw [hx] at this
      exact absurd this (by decide)
    have he : ¬ s = i := by
      intro e
      rw [← e, h1] at hx
      exact absurd hx (by decide)
    rw [hk, decide_eq_false he]
    rfl
theorem ya_met11 {post : Int64 → Prop} {a b s : Nat} {g h : Int64} {m : Int32} {E S : Nat → Int64} (ha : a < 30) (hb : b < 30) (hs : s < 64) (hp : post (hk_k (hs_t g h E a b) 64 s ||| hb_o s)) : ∀ d r x old, r + d = 65 → hb_b x s = true → (∀ i, hb_b old i = true → hb_b x i = true) → (∀ k i, hb_b old k = true → hb_b (hs_t g h E a b k) i = true → hb_b x i = true) → (∀ i, hb_b x i = true → s = i ∨ hb_b (hk_k (hs_t g h E a b) 64 s) i = true) → r ≤ hb_ct (hb_b old) 64 → wY_met_11 post (nI a) (nI b) g h m E S (d + 1) x old (nI r) := by
  intro d
  induction d with
  | zero =>
    intro r x old hr _ _ _ _ hct
    have := hb_ct_le (hb_b old) 64
    exact absurd hct (by omega)
  | succ d ih =>
    intro r x old hr h1 h2 h3 h4 hct
    refine br_f (hi_65 (by omega)) (br_c (fun e => ?_) (fun e => ⟨65, ?_⟩))
    · subst e
      rw [hm_end hs h1 h3 h4]
      exact hp
    · refine ya_met33 ha hb 64 0 x rfl (ih (r + 1) _ x (by omega) (hm_up 64 0 x s h1) (fun i hi => hm_up 64 0 x i hi) (fun k i hk hi => hm_st 64 0 x k i (by omega) (by have := hb_lt hk; omega) hk hi) ?_ ?_)
      · refine hm_in (Q := fun i => s = i ∨ hb_b (hk_k (hs_t g h E a b) 64 s) i = true) (fun k i hk hi => ?_) 64 0 x h4
        rcases hk with rfl | hk
        · exact Or.inr (hk_sub hi 64)
        · exact Or.inr (hk_tr hk (hk_sub hi 64))
      · have := hb_grow h2 e
        omega
theorem ya_met {post : Int64 → Prop} {a b s : Nat} {g h : Int64} {m : Int32} {E S : Nat → Int64} (ha : a < 30) (hb : b < 30) (hs : s < 64) (hp : post (hk_k (hs_t g h E a b) 64 s ||| hb_o s)) : wpY_met post (g, h, m, E, S) (nI a) (nI b) (nI s) := by
  refine nm_r (e' := hb_o s) rfl ⟨66, ya_met11 ha hb hs hp 65 0 (hb_o s) 0 rfl ?_ ?_ ?_ ?_ (Nat.zero_le _)⟩
  · rw [hb_ob hs]; exact decide_eq_true rfl
  · intro i hi; rw [hb_0] at hi; exact absurd hi (by decide)
  · intro k i hk; rw [hb_0] at hk; exact absurd hk (by decide)
  · intro i hi
    rw [hb_ob hs] at hi
    exact Or.inl (of_decide_eq_true hi)
-- Y: the resting states
def hn_r (C : Nat → Bool) (T : Nat → Int64) : Nat → Nat → Int64 → Int64
  | 0, _, x => x
  | d + 1, j, x => hn_r C T d (j + 1) (if (C j && decide ((T j &&& (x ^^^ (-1))) = 0)) = true then x ||| hb_o j else x)
theorem hn_if {C : Nat → Bool} {T : Nat → Int64} {j : Nat} {x : Int64} {i : Nat} (h : hb_b x i = true) : hb_b (if (C j && decide ((T j &&& (x ^^^ (-1))) = 0)) = true then x ||| hb_o j else x) i = true := by
  by_cases e : (C j && decide ((T j &&& (x ^^^ (-1))) = 0)) = true
  · rw [if_pos e, hb_or, h]; rfl
  · rw [if_neg e]; exact h
theorem hn_up {C : Nat → Bool} {T : Nat → Int64} : ∀ d j x i, hb_b x i = true → hb_b (hn_r C T d j x) i = true
  | 0, _, _, _, h => h
  | d + 1, j, _, i, h => hn_up d (j + 1) _ i (hn_if h)
theorem hn_st {C : Nat → Bool} {T : Nat → Int64} : ∀ d j x k, j + d ≤ 64 → j ≤ k → k < j + d → C k = true → (∀ i, hb_b (T k) i = true → hb_b x i = true) → hb_b (hn_r C T d j x) k = true := by
  intro d
  induction d with
  | zero => intro j x k _ h1 h2; exact absurd h2 (by omega)
  | succ d ih =>
    intro j x k hd h1 h2 hk hi
    by_cases e : j = k
    · subst e
      refine hn_up d (j + 1) _ j ?_
      rw [if_pos (by rw [hk, decide_eq_true (hb_sub.mpr hi)]; rfl), hb_or, hb_ob (by omega), decide_eq_true rfl, Bool.or_true]
    · exact ih (j + 1) _ k (by omega) (by omega) (by omega) hk (fun i h => hn_if (hi i h))
theorem hn_in {C : Nat → Bool} {T : Nat → Int64} {Q : Nat → Prop} (hQ : ∀ k, k < 64 → C k = true → (∀ i, hb_b (T k) i = true → Q i) → Q k) : ∀ d j x, j + d ≤ 64 → (∀ i, hb_b x i = true → Q i) → ∀ i, hb_b (hn_r C T d j x) i = true → Q i := by
  intro d
  induction d with
  | zero => intro j x _ h i hi; exact h i hi
  | succ d ih =>
    intro j x hd h i hi
    refine ih (j + 1) _ (by omega) (fun k hk => ?_) i hi
    by_cases e : (C j && decide ((T j &&& (x ^^^ (-1))) = 0)) = true
    · rw [if_pos e, hb_or, Bool.or_eq_true, hb_ob (by omega)] at hk
      rw [Bool.and_eq_true] at e
      rcases hk with hk | hk
      · exact h k hk
      · obtain rfl := of_decide_eq_true hk
        exact hQ j (by omega) e.1 (fun i hi => h i (hb_sub.mp (of_decide_eq_true e.2) i hi))
    · rw [if_neg e] at hk
      exact h k hk
theorem ya_rs44 {post : Int64 → Prop} {J : Int64 → Int64 → Int32 → Prop} {a b r : Nat} {g h old : Int64} {m : Int32} {E S : Nat → Int64} (ha : a < 30) (hb : b < 30) : ∀ d j x, j + d = 64 → J (hn_r (hg_c g h S a b) (hs_t g h E a b) d j x) old (nI (r + 1)) → wY_resting_44 post J (nI a) (nI b) old (nI r) g h m E S (d + 1) x (nI j) := by
  intro d
  induction d with
  | zero => intro j x hj hp; exact br_t (hi_le (by omega) (by omega)) (nm_r (nI_1 r) hp)
  | succ d ih =>
    intro j x hj hp
    have h6 : j < 64 := by omega
    have hp2 : J (hn_r (hg_c g h S a b) (hs_t g h E a b) d (j + 1) (if (hg_c g h S a b j && decide ((hs_t g h E a b j &&& (x ^^^ (-1))) = 0)) = true then x ||| hb_o j else x)) old (nI (r + 1)) := hp
    refine br_f (hi_gt h6) (ya_step ha hb h6 (ya_in h6 (fun h1 => ya_good ha hb h6 (fun h2 => ya_part (fun h3 => ?_) (fun h3 => ?_)) (fun h2 => ?_)) (fun h1 => ?_)))
    · rw [if_pos (by rw [hg_c1 h1 h2, decide_eq_true h3]; rfl)] at hp2
      exact nm_e (nm_r (nI_1 j) (ih (j + 1) _ (by omega) hp2))
    · rw [decide_eq_false h3, Bool.and_false] at hp2
      exact nm_r (nI_1 j) (ih (j + 1) _ (by omega) hp2)
    · rw [hg_c3 h2] at hp2
      exact nm_r (nI_1 j) (ih (j + 1) _ (by omega) hp2)
    · rw [hg_c2 h1] at hp2
      exact nm_r (nI_1 j) (ih (j + 1) _ (by omega) hp2)
-- the pure facts that tie both sides
def hu_U (g h : Int64) (S : Nat → Int64) (a b : Nat) : Nat → Prop := fun s => hb_b (hu_u g h S a b) s = true
theorem hu_g {g h : Int64} {S : Nat → Int64} {a b s : Nat} (hs : s < 64) : hb_b (hu_u g h S a b) s = !(hg_g g h S a b s) := by
  unfold hu_u hg_g
  rw [hb_or, hb_and, hb_and, hb_not hs, hb_not hs]
  cases hb_b g s <;> cases hb_b h s <;> cases hb_b (S a) s <;> cases hb_b (S b) s <;> rfl
theorem hu_cn {g h : Int64} {S : Nat → Int64} {a b s : Nat} (hs : s < 64) (hc : hg_c g h S a b s = true) : ¬ hu_U g h S a b s := by
  unfold hg_c at hc
  rw [Bool.and_eq_true] at hc
  unfold hu_U
  rw [hu_g hs, hc.2]
  decide
theorem hu_nc {g h : Int64} {S : Nat → Int64} {a b s : Nat} (hs : s < 64) (h1 : hb_b (g ||| h) s = true) (hu : ¬ hu_U g h S a b s) : hg_c g h S a b s = true := by
  refine hg_c1 h1 (ts_nf fun z => hu ?_)
  unfold hu_U
  rw [hu_g hs, z]
  rfl
theorem hu_no {g h : Int64} {S : Nat → Int64} {a b s : Nat} (h1 : hb_b (g ||| h) s = false) : ¬ hu_U g h S a b s := by
  rw [hb_or, Bool.or_eq_false_iff] at h1
  unfold hu_U hu_u
  rw [hb_or, hb_and, hb_and, h1.1, h1.2, Bool.false_and, Bool.false_and]
  decide
theorem hu_S0 {g h : Int64} {E S : Nat → Int64} {a b s : Nat} (h1 : hb_b (g ||| h) s = false) : hk_S (hs_t g h E a b) (hu_U g h S a b) s := by
  refine hk_S_in (hu_no h1) fun j hj => ?_
  rw [hb_or, Bool.or_eq_false_iff] at h1
  rw [hs_t0 h1.1 h1.2] at hj
  exact absurd hj (by decide)
theorem ya_rs24 {post : Int64 → Prop} {a b : Nat} {g h V : Int64} {m : Int32} {E S : Nat → Int64} (ha : a < 30) (hb : b < 30) (hV : ∀ i, i < 64 → (hb_b V i = true ↔ hk_S (hs_t g h E a b) (hu_U g h S a b) i)) (hp : post V) : ∀ d r x old, r + d = 65 → (∀ i, hb_b x i = true → hk_S (hs_t g h E a b) (hu_U g h S a b) i) → (∀ i, i < 64 → hb_b (g ||| h) i = false → hb_b x i = true) → ((r = 0 ∧ ¬ x = old) ∨ ((∀ i, hb_b old i = true → hb_b x i = true) ∧ (∀ k, k < 64 → hg_c g h S a b k = true → (∀ i, hb_b (hs_t g h E a b k) i = true → hb_b old i = true) → hb_b x k = true) ∧ r ≤ hb_ct (hb_b old) 64 + 1)) → wY_resting_24 post (nI a) (nI b) g h m E S (d + 1) x old (nI r) := by
  have fin : ∀ x : Int64, (∀ i, hb_b x i = true → hk_S (hs_t g h E a b) (hu_U g h S a b) i) → (∀ i, i < 64 → hb_b (g ||| h) i = false → hb_b x i = true) → (∀ k, k < 64 → hg_c g h S a b k = true → (∀ i, hb_b (hs_t g h E a b k) i = true → hb_b x i = true) → hb_b x k = true) → post x := by
    intro x h1 h2 h3
    have e : x = V := by
      refine hb_ext fun i hi => ?_
      cases hv : hb_b V i with
      | false =>
        refine ts_nt fun hx => ?_
        rw [(hV i hi).mpr (h1 i hx)] at hv
        exact absurd hv (by decide)
      | true =>
        refine hk_S_out (T := hs_t g h E a b) (U := hu_U g h S a b) (D := fun i => hb_b x i = true) (fun s hs hu ht => ?_) 65 i ?_ hi ((hV i hi).mp hv)
        · cases hg : hb_b (g ||| h) s with
          | false => exact h2 s hs hg
          | true => exact h3 s hs (hu_nc hs hg hu) ht
        · have := hb_ct_le (hb_b (hk_k (hs_t g h E a b) 64 i)) 64
          omega
    rw [e]
    exact hp
  intro d
  induction d with
  | zero =>
    intro r x old hr h1 h2 h3
    refine br_t (hi_65' (by omega) (by omega)) ?_
    rcases h3 with h3 | ⟨h3, h4, h5⟩
    · exact absurd h3.1 (by omega)
    · by_cases e : x = old
      · subst e
        exact fin x h1 h2 h4
      · have z1 := hb_grow h3 e
        have z2 := hb_ct_le (hb_b x) 64
        exact absurd h5 (by omega)
  | succ d ih =>
    intro r x old hr h1 h2 h3
    refine br_f (hi_65 (by omega)) (br_c (fun e => ?_) (fun e => ⟨65, ?_⟩))
    · rcases h3 with h3 | ⟨h3, h4, h5⟩
      · exact absurd e h3.2
      · subst e
        exact fin x h1 h2 h4
    · refine ya_rs44 ha hb 64 0 x rfl (ih (r + 1) _ x (by omega) ?_ (fun i hi hg => hn_up 64 0 x i (h2 i hi hg)) (Or.inr ⟨fun i hi => hn_up 64 0 x i hi, fun k hk hc ht => hn_st 64 0 x k (by omega) (by omega) (by omega) hc ht, ?_⟩))
      · exact hn_in (fun k hk hc ht => hk_S_in (hu_cn hk hc) ht) 64 0 x (by omega) h1
      · rcases h3 with h3 | ⟨h3, h4, h5⟩
        · omega
        · have := hb_grow h3 e
          omega
theorem hb_ne (x : Int64) : ¬ x = x ^^^ (-1) := by
  intro e
  have t := congrArg (fun z => hb_b z 0) e
  simp only [hb_not (show 0 < 64 by decide)] at t
  cases h : hb_b x 0 <;> rw [h] at t <;> exact absurd t (by decide)
theorem ya_rs {post : Int64 → Prop} {a b : Nat} {g h V : Int64} {m : Int32} {E S : Nat → Int64} (ha : a < 30) (hb : b < 30) (hV : ∀ i, i < 64 → (hb_b V i = true ↔ hk_S (hs_t g h E a b) (hu_U g h S a b) i)) (hp : post V) : wpY_resting post (g, h, m, E, S) (nI a) (nI b) := by
  refine nm_e (nm_e ⟨66, ya_rs24 ha hb hV hp 65 0 _ _ rfl (fun i hi => ?_) (fun i hi hg => ?_) (Or.inl ⟨rfl, hb_ne _⟩)⟩)
  · rw [hb_not (hb_lt hi)] at hi
    exact hu_S0 (Bool.not_eq_true' _ ▸ hi)
  · rw [hb_not hi, hg]
    rfl
-- X's value of sure
def hl_q (K : Nat → Int64) (u : Int64) : Int64 := hb_set (hk_rc K) ||| u
def hl_v (K : Nat → Int64) (u : Int64) : Int64 := hb_set (hw_c K (hl_q K u ^^^ (-1))) &&& (hl_q K u ^^^ (-1))
theorem hl_qb {K : Nat → Int64} {u : Int64} {i : Nat} (hi : i < 64) : hb_b (hl_q K u ^^^ (-1)) i = true ↔ (¬ hb_b (K i) i = true ∧ ¬ hb_b u i = true) := by
  unfold hl_q
  rw [hb_not hi, hb_or, hb_set_b hi]
  unfold hk_rc
  cases hb_b (K i) i <;> cases hb_b u i <;> decide
theorem hl_vb {T : Nat → Int64} {u : Int64} {i : Nat} (hi : i < 64) : hb_b (hl_v (hk_k T 64) u) i = true ↔ hk_S T (fun s => hb_b u s = true) i := by
  unfold hl_v
  rw [hb_and, Bool.and_eq_true, hb_set_b hi, hl_qb hi]
  unfold hw_c hk_S
  rw [decide_eq_true_iff, hb_sub]
  constructor
  · intro z
    exact ⟨z.2.1, z.2.2, fun j hj => (hl_qb (hb_lt hj)).mp (z.1 j hj)⟩
  · intro z
    exact ⟨fun j hj => (hl_qb (hb_lt hj)).mpr (z.2.2 j hj), z.1, z.2.1⟩
-- Y: loop
theorem ya_loop0 {post : Int32 → SY → Prop} {a b c : Nat} {g h : Int64} {E S : Nat → Int64} (ha : a < c) (hb : b < c) (hc : c < 30) (hp : post (nI c) (g, h, nI (c + 1), hr_w E c (hk_o (hk_k (hs_t g h E a b) 64) ((g ||| h) ^^^ (-1))) 64, vp_updL S c (hl_v (hk_k (hs_t g h E a b) 64) (hu_u g h S a b)))) : ∀ d j, j + d = 64 → wY_loop_36 post (nI a) (nI b) (nI c) g h (nI c) (d + 1) (nI j) (hr_w E c (hk_o (hk_k (hs_t g h E a b) 64) ((g ||| h) ^^^ (-1))) j) S := by
  have ha3 : a < 30 := by omega
  have hb3 : b < 30 := by omega
  intro d
  induction d with
  | zero =>
    intro j hj
    obtain rfl : j = 64 := hj
    refine br_t (hi_le (by omega) (by omega)) (ya_rs (V := hl_v (hk_k (hs_t g h E a b) 64) (hu_u g h S a b)) ha3 hb3 (fun i hi => ?_) (ya_p72 hc hp))
    rw [hs_tw ha hb]
    exact hl_vb hi
  | succ d ih =>
    intro j hj
    have h6 : j < 64 := by omega
    refine br_f (hi_gt h6) (ya_met ha3 hb3 h6 ⟨hi_iny hc h6, nm_r (hi_upy (F := hk_o (hk_k (hs_t g h E a b) 64) ((g ||| h) ^^^ (-1))) hc h6 ?_) (nm_r (nI_1 j) (ih (j + 1) (by omega)))⟩)
    rw [hs_tw ha hb]
    rfl
