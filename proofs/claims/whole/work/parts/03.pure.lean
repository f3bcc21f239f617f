-- rows of an array of 64 longs a program
def hr_r (E : Nat → Int64) (b : Nat) : Nat → Int64 := fun s => if s < 64 then E (64 * b + s) else 0
def hr_w (E : Nat → Int64) (c : Nat) (F : Nat → Int64) (n : Nat) : Nat → Int64 := fun i => if 64 * c ≤ i ∧ i < 64 * c + n then F (i - 64 * c) else E i
theorem hr_rv {E : Nat → Int64} {b s : Nat} (h : s < 64) : E (64 * b + s) = hr_r E b s := (if_pos h).symm
theorem hr_w0 {E F : Nat → Int64} {c : Nat} : hr_w E c F 0 = E := funext fun i => if_neg (by omega)
theorem hr_ws {E F : Nat → Int64} {c n : Nat} : vp_updL (hr_w E c F n) (64 * c + n) (F n) = hr_w E c F (n + 1) := by
  funext i
  by_cases e : i = 64 * c + n
  · subst e
    rw [pk_uLs]
    unfold hr_w
    rw [if_pos (by omega), Nat.add_sub_cancel_left]
  · rw [pk_uLn e]
    unfold hr_w
    by_cases h : 64 * c ≤ i ∧ i < 64 * c + n
    · rw [if_pos h, if_pos (by omega)]
    · rw [if_neg h, if_neg (by omega)]
theorem hr_rw {E F : Nat → Int64} {b c n : Nat} (h : b < c) : hr_r (hr_w E c F n) b = hr_r E b := by
  funext s
  unfold hr_r
  by_cases hs : s < 64
  · rw [if_pos hs, if_pos hs]
    exact if_neg (by omega)
  · rw [if_neg hs, if_neg hs]
theorem hr_wv {E T : Nat → Int64} {c j : Nat} (h : j < 64) : hr_w E c T 64 (64 * c + j) = T j := by
  unfold hr_w
  rw [if_pos (by omega), Nat.add_sub_cancel_left]
theorem hr_wu {E T : Nat → Int64} {c j : Nat} {w : Int64} (h : j < 64) : vp_updL (hr_w E c T 64) (64 * c + j) w = hr_w E c (fun i => if i = j then w else T i) 64 := by
  funext i
  by_cases e : i = 64 * c + j
  · subst e
    rw [pk_uLs]
    unfold hr_w
    rw [if_pos (by omega), Nat.add_sub_cancel_left]
    exact (if_pos rfl).symm
  · rw [pk_uLn e]
    unfold hr_w
    by_cases h : 64 * c ≤ i ∧ i < 64 * c + 64
    · rw [if_pos h, if_pos h]
      exact (if_neg (by omega)).symm
    · rw [if_neg h, if_neg h]
theorem hr_wc {E T T' : Nat → Int64} {c n : Nat} (h : ∀ s, s < n → T s = T' s) : hr_w E c T n = hr_w E c T' n := by
  funext i
  unfold hr_w
  by_cases e : 64 * c ≤ i ∧ i < 64 * c + n
  · rw [if_pos e, if_pos e, h (i - 64 * c) (by omega)]
  · rw [if_neg e, if_neg e]
-- one step from s by the open branches
def hs_t (g h : Int64) (E : Nat → Int64) (a b : Nat) : Nat → Int64 := fun s =>
  if hb_b h s = true then (if hb_b g s = true then 0 ||| hr_r E a s else 0) ||| hr_r E b s else (if hb_b g s = true then 0 ||| hr_r E a s else 0)
theorem hs_tw {g h : Int64} {E F : Nat → Int64} {a b c n : Nat} (ha : a < c) (hb : b < c) : hs_t g h (hr_w E c F n) a b = hs_t g h E a b := by
  unfold hs_t
  rw [hr_rw ha, hr_rw hb]
theorem hs_t0 {g h : Int64} {E : Nat → Int64} {a b s i : Nat} (hg : hb_b g s = false) (hh : hb_b h s = false) : hb_b (hs_t g h E a b s) i = false := by
  unfold hs_t
  rw [hg, hh]
  exact hb_0
-- the closure in place
def hk_c (T : Nat → Int64) (m : Nat) : Nat → Int64 := fun s => if hb_b (T s) m = true then T s ||| T m else T s
def hk_k (T : Nat → Int64) : Nat → Nat → Int64
  | 0 => T
  | m + 1 => hk_c (hk_k T m) m
theorem hk_cb {T : Nat → Int64} {m s j : Nat} : hb_b (hk_c T m s) j = true ↔ (hb_b (T s) j = true ∨ (hb_b (T s) m = true ∧ hb_b (T m) j = true)) := by
  unfold hk_c
  by_cases h : hb_b (T s) m = true
  · rw [if_pos h, hb_or, Bool.or_eq_true]
    exact ⟨fun z => z.elim Or.inl (fun w => Or.inr ⟨h, w⟩), fun z => z.elim Or.inl (fun w => Or.inr w.2)⟩
  · rw [if_neg h]
    exact ⟨Or.inl, fun z => z.elim id (fun w => absurd w.1 h)⟩
theorem hk_row {T : Nat → Int64} {m j : Nat} (h : hb_b (hk_c T m m) j = true) : hb_b (T m) j = true := (hk_cb.mp h).elim id (fun w => w.2)
theorem hk_col {T : Nat → Int64} {m s : Nat} (h : hb_b (hk_c T m s) m = true) : hb_b (T s) m = true := (hk_cb.mp h).elim id (fun w => w.1)
theorem hk_sub {T : Nat → Int64} {s j : Nat} (h : hb_b (T s) j = true) : ∀ m, hb_b (hk_k T m s) j = true
  | 0 => h
  | m + 1 => hk_cb.mpr (Or.inl (hk_sub h m))
theorem hk_least {T : Nat → Int64} {Q : Nat → Nat → Prop} (hR : ∀ s j, hb_b (T s) j = true → Q s j) (hQ : ∀ s m j, Q s m → Q m j → Q s j) : ∀ m s j, hb_b (hk_k T m s) j = true → Q s j
  | 0, s, j, h => hR s j h
  | m + 1, s, j, h => (hk_cb.mp h).elim (hk_least hR hQ m s j) (fun w => hQ s m j (hk_least hR hQ m s m w.1) (hk_least hR hQ m m j w.2))
theorem hk_tr0 {T : Nat → Int64} : ∀ b m s j, m < b → hb_b (hk_k T b s) m = true → hb_b (hk_k T b m) j = true → hb_b (hk_k T b s) j = true := by
  intro b
  induction b with
  | zero => intro m s j h; exact absurd h (Nat.not_lt_zero m)
  | succ b ih =>
    intro m s j hm h1 h2
    by_cases e : m = b
    · subst e
      exact hk_cb.mpr (Or.inr ⟨hk_col h1, hk_row h2⟩)
    · have hb : m < b := by omega
      rcases hk_cb.mp h1 with h1 | h1
      · rcases hk_cb.mp h2 with h2 | h2
        · exact hk_cb.mpr (Or.inl (ih m s j hb h1 h2))
        · exact hk_cb.mpr (Or.inr ⟨ih m s b hb h1 h2.1, h2.2⟩)
      · rcases hk_cb.mp h2 with h2 | h2
        · exact hk_cb.mpr (Or.inr ⟨h1.1, ih m b j hb h1.2 h2⟩)
        · exact hk_cb.mpr (Or.inr ⟨h1.1, h2.2⟩)
theorem hk_tr {T : Nat → Int64} {m s j : Nat} (h1 : hb_b (hk_k T 64 s) m = true) (h2 : hb_b (hk_k T 64 m) j = true) : hb_b (hk_k T 64 s) j = true := hk_tr0 64 m s j (hb_lt h1) h1 h2
theorem hk_first {T : Nat → Int64} {s j : Nat} (h : hb_b (hk_k T 64 s) j = true) : hb_b (T s) j = true ∨ ∃ m, hb_b (T s) m = true ∧ hb_b (hk_k T 64 m) j = true := by
  refine (hk_least (T := T) (Q := fun s j => hb_b (hk_k T 64 s) j = true ∧ (hb_b (T s) j = true ∨ ∃ m, hb_b (T s) m = true ∧ hb_b (hk_k T 64 m) j = true)) (fun s j h => ⟨hk_sub h 64, Or.inl h⟩) ?_ 64 s j h).2
  intro s m j h1 h2
  refine ⟨hk_tr h1.1 h2.1, ?_⟩
  rcases h1.2 with h | ⟨t, ht, h⟩
  · exact Or.inr ⟨m, h, h2.1⟩
  · exact Or.inr ⟨t, ht, hk_tr h h2.1⟩
-- the sure states of the loop
def hk_S (T : Nat → Int64) (U : Nat → Prop) (s : Nat) : Prop := ¬ hb_b (hk_k T 64 s) s = true ∧ ¬ U s ∧ ∀ j, hb_b (hk_k T 64 s) j = true → ¬ hb_b (hk_k T 64 j) j = true ∧ ¬ U j
theorem hk_S_in {T : Nat → Int64} {U : Nat → Prop} {s : Nat} (hu : ¬ U s) (h : ∀ j, hb_b (T s) j = true → hk_S T U j) : hk_S T U s := by
  refine ⟨fun hs => ?_, hu, fun j hj => ?_⟩
  · rcases hk_first hs with h1 | ⟨m, h1, h2⟩
    · exact (h s h1).1 hs
    · exact ((h m h1).2.2 s h2).1 hs
  · rcases hk_first hj with h1 | ⟨m, h1, h2⟩
    · exact ⟨(h j h1).1, (h j h1).2.1⟩
    · exact (h m h1).2.2 j h2
theorem hk_S_out {T : Nat → Int64} {U : Nat → Prop} {D : Nat → Prop} (hD : ∀ s, s < 64 → ¬ U s → (∀ j, hb_b (T s) j = true → D j) → D s) : ∀ n s, hb_ct (hb_b (hk_k T 64 s)) 64 < n → s < 64 → hk_S T U s → D s := by
  intro n
  induction n with
  | zero => intro s h; exact absurd h (Nat.not_lt_zero _)
  | succ n ih =>
    intro s hn h6 hs
    refine hD s h6 hs.2.1 fun j hj => ?_
    have hk := hk_sub hj 64
    have hj2 := hs.2.2 j hk
    refine ih j ?_ (hb_lt hj) ⟨hj2.1, hj2.2, fun i hi => hs.2.2 i (hk_tr hk hi)⟩
    have := hb_ct_lt (p := hb_b (hk_k T 64 j)) (q := hb_b (hk_k T 64 s)) (fun i hi => hk_tr hk hi) (ts_nt hj2.1) hk 64 (hb_lt hk)
    omega
