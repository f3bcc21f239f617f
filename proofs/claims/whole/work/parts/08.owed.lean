/-- both keep the same guards, the same count of programs, the same ends and the same sure states -/
def i_Rel (_ : Nat) (u : SX) (v : SY) : Prop := ∃ (c : Nat) (g h : Int64) (E S : Nat → Int64), c ≤ 30 ∧ u = (nI c, g, h, E, S) ∧ v = (g, h, nI c, E, S)
theorem i_up {k : Nat} {u : SX} {v : SY} (h : i_Rel k u v) : i_Rel (k + 4) u v := h
theorem i_vc0 : wpX_init (fun u => wpY_init (fun v => i_Rel 0 u v)) := ⟨0, 0, 0, fun _ => 0, fun _ => 0, by decide, rfl, rfl⟩
theorem i_vc_guard {k : Nat} {u : SX} {v : SY} (I : i_Rel k u v) (hk : k + 4 ≤ 2048) (v1 : Int32) (a1 : Int64) : wpX_guard (fun r u' => wpY_guard (fun r' v' => r' = r ∧ i_Rel (k + 4) u' v') v v1 a1) u v1 a1 := by
  obtain ⟨c, g, h, E, S, hc, rfl, rfl⟩ := I
  by_cases hw : v1 = 0
  · exact br_t hw (xa_size (ya_keep1 hw ⟨rfl, c, a1, h, E, S, hc, rfl, rfl⟩))
  · exact br_f hw (xa_size (ya_keep2 hw ⟨rfl, c, g, a1, E, S, hc, rfl, rfl⟩))
theorem i_vc_compare {k : Nat} {u : SX} {v : SY} (I : i_Rel k u v) (hk : k + 4 ≤ 2048) (v1 : Int32) (v2 : Int32) (v3 : Int32) : wpX_compare (fun r u' => wpY_compare (fun r' v' => r' = r ∧ i_Rel (k + 4) u' v') v v1 v2 v3) u v1 v2 v3 := by
  obtain ⟨c, g, h, E, S, hc, rfl, rfl⟩ := I
  rcases pk_ix v2 (n := 512) (by decide) with hf | hf | ⟨f, hf, rfl⟩
  · exact br_t hf (br_t rfl (br_t hf ⟨rfl, c, g, h, E, S, hc, rfl, rfl⟩))
  · have h0 : ¬ v2 < 0 := fun z => Int32.lt_irrefl (Int32.lt_of_lt_of_le z (Int32.le_trans (show (0 : Int32) ≤ 512 by decide) hf))
    have h5 : ¬ v2 ≤ 511 := fun z => absurd (Int32.le_trans hf z) (by decide)
    exact br_f h0 (br_t hf (br_t rfl (br_f h0 (br_f h5 ⟨rfl, c, g, h, E, S, hc, rfl, rfl⟩))))
  · have h0 : ¬ nI f < 0 := nI_pos (by omega)
    have h5 : ¬ (512 : Int32) ≤ nI f := nI_ge (b := 512) hf (by decide)
    have h5' : nI f ≤ 511 := nI_le (b := 511) (by omega) (by decide)
    refine br_f h0 (br_f h5 (br_f (by decide) ?_))
    by_cases h3 : v3 < 0
    · exact br_t h3 (br_f h0 (br_t h5' (br_t h3 ⟨rfl, c, g, h, E, S, hc, rfl, rfl⟩)))
    · by_cases h8 : v3 ≤ 8
      · refine br_f h3 (br_t h8 (xa_below hf ?_))
        by_cases hw : v1 = 0
        · exact br_t hw (xa_size (br_f h0 (br_t h5' (br_f h3 (br_t h8 ⟨65, ya_cmp0 hf 64 0 0 rfl (ya_keep1 hw ⟨rfl, c, _, h, E, S, hc, rfl, rfl⟩)⟩)))))
        · exact br_f hw (xa_size (br_f h0 (br_t h5' (br_f h3 (br_t h8 ⟨65, ya_cmp0 hf 64 0 0 rfl (ya_keep2 hw ⟨rfl, c, g, _, E, S, hc, rfl, rfl⟩)⟩)))))
      · exact br_f h3 (br_f h8 (br_f h0 (br_t h5' (br_f h3 (br_f h8 ⟨rfl, c, g, h, E, S, hc, rfl, rfl⟩)))))
theorem i_vc_oppose {k : Nat} {u : SX} {v : SY} (I : i_Rel k u v) (hk : k + 4 ≤ 2048) (v1 : Int32) : wpX_oppose (fun r u' => wpY_oppose (fun r' v' => r' = r ∧ i_Rel (k + 4) u' v') v v1) u v1 := by
  obtain ⟨c, g, h, E, S, hc, rfl, rfl⟩ := I
  by_cases hw : v1 = 0
  · exact br_t hw (br_t hw (xa_size (br_t hw (ya_keep1 hw ⟨rfl, c, _, h, E, S, hc, rfl, rfl⟩))))
  · exact br_f hw (br_f hw (xa_size (br_f hw (ya_keep2 hw ⟨rfl, c, g, _, E, S, hc, rfl, rfl⟩))))
theorem i_vc_skip {k : Nat} {u : SX} {v : SY} (I : i_Rel k u v) (hk : k + 4 ≤ 2048) : wpX_skip (fun r u' => wpY_skip (fun r' v' => r' = r ∧ i_Rel (k + 4) u' v') v) u := by
  obtain ⟨c, g, h, E, S, hc, rfl, rfl⟩ := I
  unfold wpX_skip wpY_skip wpY_plain
  dsimp only
  by_cases h3 : c < 30
  · exact xg_free h3 (br_t rfl (nm_r (hi_x c) ⟨65, xb_skip h3 (yg_free h3 (br_t rfl ⟨65, yb_skip h3 ⟨rfl, c + 1, g, h, _, _, by omega, rfl, rfl⟩⟩))⟩))
  · obtain rfl : c = 30 := by omega
    exact xg_full (br_f (by decide) (yg_full (br_f (by decide) ⟨rfl, 30, g, h, E, S, hc, rfl, rfl⟩)))
theorem i_vc_fail {k : Nat} {u : SX} {v : SY} (I : i_Rel k u v) (hk : k + 4 ≤ 2048) : wpX_fail (fun r u' => wpY_fail (fun r' v' => r' = r ∧ i_Rel (k + 4) u' v') v) u := by
  obtain ⟨c, g, h, E, S, hc, rfl, rfl⟩ := I
  unfold wpX_fail wpY_fail wpY_plain
  dsimp only
  by_cases h3 : c < 30
  · exact xg_free h3 (br_t rfl (nm_r (hi_x c) ⟨65, xb_fail h3 (yg_free h3 (br_t rfl ⟨65, yb_fail h3 ⟨rfl, c + 1, g, h, _, _, by omega, rfl, rfl⟩⟩))⟩))
  · obtain rfl : c = 30 := by omega
    exact xg_full (br_f (by decide) (yg_full (br_f (by decide) ⟨rfl, 30, g, h, E, S, hc, rfl, rfl⟩)))
theorem i_vc_assign {k : Nat} {u : SX} {v : SY} (I : i_Rel k u v) (hk : k + 4 ≤ 2048) (v1 : Int32) (v2 : Int32) : wpX_assign (fun r u' => wpY_assign (fun r' v' => r' = r ∧ i_Rel (k + 4) u' v') v v1 v2) u v1 v2 := by
  obtain ⟨c, g, h, E, S, hc, rfl, rfl⟩ := I
  unfold wpX_assign wpY_assign
  dsimp only
  rcases pk_ix v2 (n := 512) (by decide) with hf | hf | ⟨f, hf, rfl⟩
  · exact br_t hf (br_t rfl (br_t hf ⟨rfl, c, g, h, E, S, hc, rfl, rfl⟩))
  · have h0 : ¬ v2 < 0 := fun z => Int32.lt_irrefl (Int32.lt_of_lt_of_le z (Int32.le_trans (show (0 : Int32) ≤ 512 by decide) hf))
    have h5 : ¬ v2 ≤ 511 := fun z => absurd (Int32.le_trans hf z) (by decide)
    exact br_f h0 (br_t hf (br_t rfl (br_f h0 (br_f h5 ⟨rfl, c, g, h, E, S, hc, rfl, rfl⟩))))
  · have h0 : ¬ nI f < 0 := nI_pos (by omega)
    have h5 : ¬ (512 : Int32) ≤ nI f := nI_ge (b := 512) hf (by decide)
    have h5' : nI f ≤ 511 := nI_le (b := 511) (by omega) (by decide)
    refine br_f h0 (br_f h5 (br_f (by decide) ?_))
    by_cases h3 : c < 30
    · exact xg_free h3 (br_t rfl (nm_r (hi_x c) ⟨65, xb_assign hf h3 (br_f h0 (br_t h5' (yg_free h3 (br_t rfl ⟨65, yb_assign hf h3 ⟨rfl, c + 1, g, h, _, _, by omega, rfl, rfl⟩⟩))))⟩))
    · obtain rfl : c = 30 := by omega
      exact xg_full (br_f (by decide) (br_f h0 (br_t h5' (yg_full (br_f (by decide) ⟨rfl, 30, g, h, E, S, hc, rfl, rfl⟩)))))
theorem i_vc_sequence {k : Nat} {u : SX} {v : SY} (I : i_Rel k u v) (hk : k + 4 ≤ 2048) (v1 : Int32) (v2 : Int32) : wpX_sequence (fun r u' => wpY_sequence (fun r' v' => r' = r ∧ i_Rel (k + 4) u' v') v v1 v2) u v1 v2 := by
  obtain ⟨c, g, h, E, S, hc, rfl, rfl⟩ := I
  unfold wpX_sequence wpY_sequence
  dsimp only
  rcases vg_or v1 hc with h1 | ⟨a, ha, rfl⟩
  · exact xg_bad h1 (br_t rfl (yg_bad h1 (br_f (by decide) ⟨rfl, c, g, h, E, S, hc, rfl, rfl⟩)))
  · rcases vg_or v2 hc with h2 | ⟨b, hb, rfl⟩
    · exact xg_good ha hc (br_f (by decide) (xg_bad h2 (br_t rfl (yg_good ha hc (br_t rfl (yg_bad h2 (br_f (by decide) ⟨rfl, c, g, h, E, S, hc, rfl, rfl⟩)))))))
    · refine xg_good ha hc (br_f (by decide) (xg_good hb hc (br_f (by decide) ?_)))
      by_cases h3 : c < 30
      · exact xg_free h3 (br_t rfl (nm_r (hi_x c) (nm_r (hi_x a) ⟨65, xb_seq ha hb h3 (yg_good ha hc (br_t rfl (yg_good hb hc (br_t rfl (yg_free h3 (br_t rfl ⟨65, yb_seq ha hb h3 ⟨rfl, c + 1, g, h, _, _, by omega, rfl, rfl⟩⟩))))))⟩)))
      · obtain rfl : c = 30 := by omega
        exact xg_full (br_f (by decide) (yg_good ha hc (br_t rfl (yg_good hb hc (br_t rfl (yg_full (br_f (by decide) ⟨rfl, 30, g, h, E, S, hc, rfl, rfl⟩)))))))
theorem i_vc_choice {k : Nat} {u : SX} {v : SY} (I : i_Rel k u v) (hk : k + 4 ≤ 2048) (v1 : Int32) (v2 : Int32) : wpX_choice (fun r u' => wpY_choice (fun r' v' => r' = r ∧ i_Rel (k + 4) u' v') v v1 v2) u v1 v2 := by
  obtain ⟨c, g, h, E, S, hc, rfl, rfl⟩ := I
  unfold wpX_choice wpY_choice
  dsimp only
  rcases vg_or v1 hc with h1 | ⟨a, ha, rfl⟩
  · exact xg_bad h1 (br_t rfl (yg_bad h1 (br_f (by decide) ⟨rfl, c, g, h, E, S, hc, rfl, rfl⟩)))
  · rcases vg_or v2 hc with h2 | ⟨b, hb, rfl⟩
    · exact xg_good ha hc (br_f (by decide) (xg_bad h2 (br_t rfl (yg_good ha hc (br_t rfl (yg_bad h2 (br_f (by decide) ⟨rfl, c, g, h, E, S, hc, rfl, rfl⟩)))))))
    · refine xg_good ha hc (br_f (by decide) (xg_good hb hc (br_f (by decide) ?_)))
      by_cases h3 : c < 30
      · refine xg_free h3 (br_t rfl (xa_wb ha hb h3 (xa_un (by omega) (by omega) (xa_add h3 ?_))))
        rw [hg_eq]
        exact yg_good ha hc (br_t rfl (yg_good hb hc (br_t rfl (yg_free h3 (br_t rfl ⟨65, yb_ch ha hb h3 ⟨rfl, c + 1, g, h, _, _, by omega, rfl, rfl⟩⟩)))))
      · obtain rfl : c = 30 := by omega
        exact xg_full (br_f (by decide) (yg_good ha hc (br_t rfl (yg_good hb hc (br_t rfl (yg_full (br_f (by decide) ⟨rfl, 30, g, h, E, S, hc, rfl, rfl⟩)))))))
theorem i_vc_loop {k : Nat} {u : SX} {v : SY} (I : i_Rel k u v) (hk : k + 4 ≤ 2048) (v1 : Int32) (v2 : Int32) : wpX_loop (fun r u' => wpY_loop (fun r' v' => r' = r ∧ i_Rel (k + 4) u' v') v v1 v2) u v1 v2 := by
  obtain ⟨c, g, h, E, S, hc, rfl, rfl⟩ := I
  unfold wpX_loop wpY_loop
  dsimp only
  rcases vg_or v1 hc with h1 | ⟨a, ha, rfl⟩
  · exact xg_bad h1 (br_t rfl (yg_bad h1 (br_f (by decide) ⟨rfl, c, g, h, E, S, hc, rfl, rfl⟩)))
  · rcases vg_or v2 hc with h2 | ⟨b, hb, rfl⟩
    · exact xg_good ha hc (br_f (by decide) (xg_bad h2 (br_t rfl (yg_good ha hc (br_t rfl (yg_bad h2 (br_f (by decide) ⟨rfl, c, g, h, E, S, hc, rfl, rfl⟩)))))))
    · refine xg_good ha hc (br_f (by decide) (xg_good hb hc (br_f (by decide) ?_)))
      by_cases h3 : c < 30
      · refine xg_free h3 (br_t rfl (xa_wb ha hb h3 (xa_cs h3 (xa_ret h3 (xa_un (by omega) (by omega) (xa_avoid h3 (xa_ko h3 (xa_add h3 ?_))))))))
        rw [hl_rc, hl_wc]
        exact yg_good ha hc (br_t rfl (yg_good hb hc (br_t rfl (yg_free h3 (br_t rfl ⟨65, yb_loop ha hb h3 ⟨rfl, c + 1, g, h, _, _, by omega, rfl, rfl⟩⟩)))))
      · obtain rfl : c = 30 := by omega
        exact xg_full (br_f (by decide) (yg_good ha hc (br_t rfl (yg_good hb hc (br_t rfl (yg_full (br_f (by decide) ⟨rfl, 30, g, h, E, S, hc, rfl, rfl⟩)))))))
theorem i_vc_programs {k : Nat} {u : SX} {v : SY} (I : i_Rel k u v) (hk : k + 4 ≤ 2048) : wpX_programs (fun r => wpY_programs (fun r' => r' = r ∧ i_Rel (k + 4) u v) v) u := by
  obtain ⟨c, g, h, E, S, hc, rfl, rfl⟩ := I
  exact ⟨rfl, c, g, h, E, S, hc, rfl, rfl⟩
theorem i_vc_ends {k : Nat} {u : SX} {v : SY} (I : i_Rel k u v) (hk : k + 4 ≤ 2048) (v1 : Int32) (v2 : Int32) : wpX_ends (fun r => wpY_ends (fun r' => r' = r ∧ i_Rel (k + 4) u v) v v1 v2) u v1 v2 := by
  obtain ⟨c, g, h, E, S, hc, rfl, rfl⟩ := I
  unfold wpX_ends wpY_ends
  dsimp only
  have J : i_Rel (k + 4) (nI c, g, h, E, S) (g, h, nI c, E, S) := ⟨c, g, h, E, S, hc, rfl, rfl⟩
  rcases vg_or v1 hc with h1 | ⟨a, ha, rfl⟩
  · exact xg_bad h1 (br_t rfl (yg_bad h1 (br_f (by decide) ⟨rfl, J⟩)))
  · refine xg_good ha hc (br_f (by decide) ?_)
    rcases pk_ix v2 (n := 64) (by decide) with hf | hf | ⟨s, hs, rfl⟩
    · exact br_t hf (yg_good ha hc (br_t rfl (br_t hf ⟨rfl, J⟩)))
    · have h0 : ¬ v2 < 0 := fun z => Int32.lt_irrefl (Int32.lt_of_lt_of_le z (Int32.le_trans (show (0 : Int32) ≤ 64 by decide) hf))
      have h5 : ¬ v2 ≤ 63 := fun z => absurd (Int32.le_trans hf z) (by decide)
      have h6 : ¬ v2 < 64 := fun z => Int32.lt_irrefl (Int32.lt_of_lt_of_le z hf)
      exact br_f h0 (br_f h6 (yg_good ha hc (br_t rfl (br_f h0 (br_f h5 ⟨rfl, J⟩)))))
    · have h0 : ¬ nI s < 0 := nI_pos (by omega)
      have h5 : nI s ≤ 63 := nI_le (b := 63) (by omega) (by decide)
      have h6 : nI s < 64 := nI_lt (b := 64) hs (by decide)
      refine br_f h0 (br_t h6 ⟨by rw [hi_x]; exact hi_in (by omega) hs, ?_⟩)
      refine yg_good ha hc (br_t rfl (br_f h0 (br_t h5 ⟨hi_iny (by omega) hs, ?_, J⟩)))
      rw [hi_x, hi_y]
theorem i_vc_sure {k : Nat} {u : SX} {v : SY} (I : i_Rel k u v) (hk : k + 4 ≤ 2048) (v1 : Int32) : wpX_sure (fun r => wpY_sure (fun r' => r' = r ∧ i_Rel (k + 4) u v) v v1) u v1 := by
  obtain ⟨c, g, h, E, S, hc, rfl, rfl⟩ := I
  unfold wpX_sure wpY_sure
  dsimp only
  have J : i_Rel (k + 4) (nI c, g, h, E, S) (g, h, nI c, E, S) := ⟨c, g, h, E, S, hc, rfl, rfl⟩
  rcases vg_or v1 hc with h1 | ⟨a, ha, rfl⟩
  · exact xg_bad h1 (br_t rfl (yg_bad h1 (br_f (by decide) ⟨rfl, J⟩)))
  · exact xg_good ha hc (br_f (by decide) ⟨hi_30 (by omega), yg_good ha hc (br_t rfl ⟨hi_30 (by omega), rfl, J⟩)⟩)
theorem i_vc_demand {k : Nat} {u : SX} {v : SY} (I : i_Rel k u v) (hk : k + 4 ≤ 2048) (v1 : Int32) (a1 : Int64) : wpX_demand (fun r => wpY_demand (fun r' => r' = r ∧ i_Rel (k + 4) u v) v v1 a1) u v1 a1 := by
  obtain ⟨c, g, h, E, S, hc, rfl, rfl⟩ := I
  unfold wpX_demand wpY_demand
  dsimp only
  have J : i_Rel (k + 4) (nI c, g, h, E, S) (g, h, nI c, E, S) := ⟨c, g, h, E, S, hc, rfl, rfl⟩
  rcases vg_or v1 hc with h1 | ⟨a, ha, rfl⟩
  · exact xg_bad h1 (br_t rfl (yg_bad h1 (br_f (by decide) ⟨rfl, J⟩)))
  · exact xg_good ha hc (br_f (by decide) (xa_only (by omega) ⟨hi_30 (by omega), yg_good ha hc (br_t rfl (ya_weak (by omega) ⟨hi_30 (by omega), Int64.and_comm _ _, J⟩))⟩))
theorem i_vc_weakDemand {k : Nat} {u : SX} {v : SY} (I : i_Rel k u v) (hk : k + 4 ≤ 2048) (v1 : Int32) (a1 : Int64) : wpX_weakDemand (fun r => wpY_weakDemand (fun r' => r' = r ∧ i_Rel (k + 4) u v) v v1 a1) u v1 a1 := by
  obtain ⟨c, g, h, E, S, hc, rfl, rfl⟩ := I
  unfold wpX_weakDemand wpY_weakDemand
  dsimp only
  have J : i_Rel (k + 4) (nI c, g, h, E, S) (g, h, nI c, E, S) := ⟨c, g, h, E, S, hc, rfl, rfl⟩
  rcases vg_or v1 hc with h1 | ⟨a, ha, rfl⟩
  · exact xg_bad h1 (br_t rfl (yg_bad h1 (br_f (by decide) ⟨rfl, J⟩)))
  · exact xg_good ha hc (br_f (by decide) (xa_only (by omega) (yg_good ha hc (br_t rfl (ya_weak (by omega) ⟨rfl, J⟩)))))
theorem i_vc_image {k : Nat} {u : SX} {v : SY} (I : i_Rel k u v) (hk : k + 4 ≤ 2048) (v1 : Int32) (a1 : Int64) : wpX_image (fun r => wpY_image (fun r' => r' = r ∧ i_Rel (k + 4) u v) v v1 a1) u v1 a1 := by
  obtain ⟨c, g, h, E, S, hc, rfl, rfl⟩ := I
  unfold wpX_image wpY_image
  dsimp only
  have J : i_Rel (k + 4) (nI c, g, h, E, S) (g, h, nI c, E, S) := ⟨c, g, h, E, S, hc, rfl, rfl⟩
  rcases vg_or v1 hc with h1 | ⟨a, ha, rfl⟩
  · exact xg_bad h1 (br_t rfl (yg_bad h1 (br_f (by decide) ⟨rfl, J⟩)))
  · exact xg_good ha hc (br_f (by decide) (xa_all (by omega) (yg_good ha hc (br_t rfl (ya_from (by omega) ⟨rfl, J⟩)))))
theorem i_vc_refines {k : Nat} {u : SX} {v : SY} (I : i_Rel k u v) (hk : k + 4 ≤ 2048) (v1 : Int32) (v2 : Int32) : wpX_refines (fun r => wpY_refines (fun r' => r' = r ∧ i_Rel (k + 4) u v) v v1 v2) u v1 v2 := by
  obtain ⟨c, g, h, E, S, hc, rfl, rfl⟩ := I
  unfold wpX_refines wpY_refines
  dsimp only
  have J : i_Rel (k + 4) (nI c, g, h, E, S) (g, h, nI c, E, S) := ⟨c, g, h, E, S, hc, rfl, rfl⟩
  rcases vg_or v1 hc with h1 | ⟨a, ha, rfl⟩
  · exact xg_bad h1 (br_t rfl (yg_bad h1 (br_f (by decide) ⟨rfl, J⟩)))
  · rcases vg_or v2 hc with h2 | ⟨b, hb, rfl⟩
    · exact xg_good ha hc (br_f (by decide) (xg_bad h2 (br_t rfl (yg_good ha hc (br_t rfl (yg_bad h2 (br_f (by decide) ⟨rfl, J⟩)))))))
    · have ha3 : a < 30 := by omega
      have hb3 : b < 30 := by omega
      refine xg_good ha hc (br_f (by decide) (xg_good hb hc (br_f (by decide) ⟨hi_30 ha3, hi_30 hb3, ?_⟩)))
      rw [hi_c30 ha3, hi_c30 hb3]
      refine br_c (fun hz => nm_r (hi_x a) (nm_r (hi_x b) ⟨65, xa_ref0 ha3 hb3 (fun hd => ?_) (fun hd => ?_) 64 0 rfl (fun s hs => absurd hs (Nat.not_lt_zero s))⟩)) (fun hz => ?_)
      · exact yg_good ha hc (br_t rfl (yg_good hb hc (br_t rfl ⟨65, ya_ref0 ha3 hb3 (fun _ => ⟨rfl, J⟩) (fun z => absurd (fun s hs hS => ⟨hb_sub.mp hz s hS, hd s hs hS⟩) z) 64 0 rfl (fun s hs => absurd hs (Nat.not_lt_zero s))⟩)))
      · exact yg_good ha hc (br_t rfl (yg_good hb hc (br_t rfl ⟨65, ya_ref0 ha3 hb3 (fun z => absurd (fun s hs hS => (z s hs hS).2) hd) (fun _ => ⟨rfl, J⟩) 64 0 rfl (fun s hs => absurd hs (Nat.not_lt_zero s))⟩)))
      · exact yg_good ha hc (br_t rfl (yg_good hb hc (br_t rfl ⟨65, ya_ref0 ha3 hb3 (fun z => absurd (hb_sub.mpr fun s hS => (z s (hb_lt hS) hS).1) hz) (fun _ => ⟨rfl, J⟩) 64 0 rfl (fun s hs => absurd hs (Nat.not_lt_zero s))⟩)))
theorem i_vc_settled {k : Nat} {u : SX} {v : SY} (I : i_Rel k u v) (hk : k + 4 ≤ 2048) (v1 : Int32) : wpX_settled (fun r => wpY_settled (fun r' => r' = r ∧ i_Rel (k + 4) u v) v v1) u v1 := by
  obtain ⟨c, g, h, E, S, hc, rfl, rfl⟩ := I
  unfold wpX_settled wpY_settled
  dsimp only
  have J : i_Rel (k + 4) (nI c, g, h, E, S) (g, h, nI c, E, S) := ⟨c, g, h, E, S, hc, rfl, rfl⟩
  rcases vg_or v1 hc with h1 | ⟨a, ha, rfl⟩
  · exact xg_bad h1 (br_t rfl (yg_bad h1 (br_f (by decide) ⟨rfl, J⟩)))
  · have ha3 : a < 30 := by omega
    refine xg_good ha hc (br_f (by decide) (nm_r (hi_x a) ⟨65, xa_set0 ha3 (fun hd => ?_) (fun hd => ?_) 64 0 rfl (fun s hs => absurd hs (Nat.not_lt_zero s))⟩))
    · exact yg_good ha hc (br_t rfl ⟨65, ya_set0 ha3 (fun _ => ⟨rfl, J⟩) (fun z => absurd hd z) 64 0 rfl (fun s hs => absurd hs (Nat.not_lt_zero s))⟩)
    · exact yg_good ha hc (br_t rfl ⟨65, ya_set0 ha3 (fun z => absurd z hd) (fun _ => ⟨rfl, J⟩) 64 0 rfl (fun s hs => absurd hs (Nat.not_lt_zero s))⟩)
theorem i_vc_widest {k : Nat} {u : SX} {v : SY} (I : i_Rel k u v) (hk : k + 4 ≤ 2048) (v1 : Int32) : wpX_widest (fun r => wpY_widest (fun r' => r' = r ∧ i_Rel (k + 4) u v) v v1) u v1 := by
  obtain ⟨c, g, h, E, S, hc, rfl, rfl⟩ := I
  unfold wpX_widest wpY_widest
  dsimp only
  have J : i_Rel (k + 4) (nI c, g, h, E, S) (g, h, nI c, E, S) := ⟨c, g, h, E, S, hc, rfl, rfl⟩
  rcases vg_or v1 hc with h1 | ⟨a, ha, rfl⟩
  · exact xg_bad h1 (br_t rfl (yg_bad h1 (br_f (by decide) ⟨rfl, J⟩)))
  · exact xg_good ha hc (br_f (by decide) (nm_r (hi_x a) ⟨65, xa_wid0 (by omega) 64 0 0 rfl (yg_good ha hc (br_t rfl ⟨65, ya_wid0 (by omega) 64 0 0 rfl ⟨rfl, J⟩⟩))⟩))
