/-- the two states hold the same points: the component's in rising order of places, the reference's in any -/
def i_Rel (k : Nat) (u : SX) (v : SY) : Prop := ∃ l, gf_G l ∧ gf_AX l u ∧ gf_AY l v
theorem i_up {k : Nat} {u : SX} {v : SY} (h : i_Rel k u v) : i_Rel (k + 4) u v := h
theorem i_vc0 : wpX_init (fun u => wpY_init (fun v => i_Rel 0 u v)) :=
  ⟨[], ⟨List.Pairwise.nil, fun a h => (by cases h), by decide⟩, ⟨[], _, _, rfl, fun i a e => (by rw [List.getElem?_nil] at e; cases e), List.Pairwise.nil, List.Perm.refl _⟩, ⟨[], _, _, _, rfl, fun i a e => (by rw [List.getElem?_nil] at e; cases e), List.Perm.refl _⟩⟩
theorem i_vc_put {k : Nat} {u : SX} {v : SY} (I : i_Rel k u v) (hk : k + 4 ≤ 2048) (v1 : Int32) (v2 : Int32) (v3 : Int32) : wpX_put (fun r u' => wpY_put (fun r' v' => r' = r ∧ i_Rel (k + 4) u' v') v v1 v2 v3) u v1 v2 v3 := by
  obtain ⟨l, hG, hX, hY⟩ := I
  by_cases hc : gf_C v1 ∧ gf_C v2
  · obtain ⟨⟨a, ha, rfl⟩, b, hb, rfl⟩ := hc
    refine xput hG hX ha hb (fun u' hu => yput hG hY ha hb (fun v' hv => ⟨rfl, _, gf_put_G hG (by omega) v3, hu, hv⟩))
  · exact xput_f hc (yput_f hc ⟨rfl, l, hG, hX, hY⟩)
theorem i_vc_remove {k : Nat} {u : SX} {v : SY} (I : i_Rel k u v) (hk : k + 4 ≤ 2048) (v1 : Int32) (v2 : Int32) : wpX_remove (fun r u' => wpY_remove (fun r' v' => r' = r ∧ i_Rel (k + 4) u' v') v v1 v2) u v1 v2 := by
  obtain ⟨l, hG, hX, hY⟩ := I
  by_cases hc : gf_C v1 ∧ gf_C v2
  · obtain ⟨⟨a, ha, rfl⟩, b, hb, rfl⟩ := hc
    refine xrm hG hX ha hb (fun h1 u' hu => yrm hG hY ha hb (fun _ v' hv => ⟨rfl, _, gf_Gf hG _, hu, hv⟩) (fun h0 => ?_)) (fun h0 => yrm hG hY ha hb (fun h1 => ?_) (fun _ => ⟨rfl, l, hG, hX, hY⟩))
    · rw [h1] at h0; cases h0
    · rw [h1] at h0; cases h0
  · exact xrm_f hc (yrm_f hc ⟨rfl, l, hG, hX, hY⟩)
theorem i_vc_clear {k : Nat} {u : SX} {v : SY} (I : i_Rel k u v) (hk : k + 4 ≤ 2048) (v1 : Int32) (v2 : Int32) : wpX_clear (fun r u' => wpY_clear (fun r' v' => r' = r ∧ i_Rel (k + 4) u' v') v v1 v2) u v1 v2 := by
  obtain ⟨l, hG, hX, hY⟩ := I
  by_cases hc : gf_R v1 v2
  · obtain ⟨lo, hi, hlo, hhi, rfl, rfl, r1, r2⟩ := hc
    exact xcl hG hX hlo hhi r1 r2 (fun u' hu => ycl hG hY hlo hhi r1 r2 (fun v' hv => ⟨rfl, _, gf_Gf hG _, hu, hv⟩))
  · exact xcl_f hc (ycl_f hc ⟨rfl, l, hG, hX, hY⟩)
theorem i_vc_scatter {k : Nat} {u : SX} {v : SY} (I : i_Rel k u v) (hk : k + 4 ≤ 2048) (v1 : Int32) (v2 : Int32) (v3 : Int32) : wpX_scatter (fun r u' => wpY_scatter (fun r' v' => r' = r ∧ i_Rel (k + 4) u' v') v v1 v2 v3) u v1 v2 v3 := by
  obtain ⟨l, hG, hX, hY⟩ := I
  by_cases hc : gf_P v1
  · obtain ⟨p, hp, rfl⟩ := hc
    by_cases hw : gf_W v2
    · obtain ⟨m, hm, em⟩ := gf_W_m hw
      exact xsc hG hX hp hw hm em (fun u' hu => ysc hG hY hp hw hm em (fun v' hv => ⟨rfl, _, gf_sc_G (gf_g_lt _ _ _) _ _ _ hG, hu, hv⟩))
    · exact xsc_f2 hp hw (ysc_f2 hp hw ⟨rfl, l, hG, hX, hY⟩)
  · exact xsc_f1 hc (ysc_f1 hc ⟨rfl, l, hG, hX, hY⟩)
theorem i_vc_move {k : Nat} {u : SX} {v : SY} (I : i_Rel k u v) (hk : k + 4 ≤ 2048) (v1 : Int32) (v2 : Int32) : wpX_move (fun r u' => wpY_move (fun r' v' => r' = r ∧ i_Rel (k + 4) u' v') v v1 v2) u v1 v2 := by
  obtain ⟨l, hG, hX, hY⟩ := I
  by_cases hc : gf_P v1 ∧ gf_P v2
  · obtain ⟨⟨p, hp, rfl⟩, q, hq, rfl⟩ := hc
    cases hhp : gf_h l p with
    | false =>
      refine xmv hG hX hp hq (fun _ => ymv hG hY hp hq (fun _ => ⟨rfl, l, hG, hX, hY⟩) (fun z => ?_) (fun z => ?_)) (fun z => ?_) (fun z => ?_)
      all_goals (rw [hhp] at z; cases z)
    | true =>
      cases hhq : gf_h l q with
      | false =>
        refine xmv hG hX hp hq (fun z => ?_) (fun _ z => ?_) (fun _ _ u' hu => ymv hG hY hp hq (fun z => ?_) (fun _ z => ?_) (fun _ _ v' hv => ⟨rfl, _, gf_mv_G hG hq hhp hhq, hu, hv⟩))
        all_goals first | (rw [hhp] at z; cases z) | (rw [hhq] at z; cases z)
      | true =>
        refine xmv hG hX hp hq (fun z => ?_) (fun _ _ => ymv hG hY hp hq (fun z => ?_) (fun _ _ => ⟨rfl, l, hG, hX, hY⟩) (fun _ z => ?_)) (fun _ z => ?_)
        all_goals first | (rw [hhp] at z; cases z) | (rw [hhq] at z; cases z)
  · exact xmv_f hc (ymv_f hc ⟨rfl, l, hG, hX, hY⟩)
theorem i_vc_size {k : Nat} {u : SX} {v : SY} (I : i_Rel k u v) (hk : k + 4 ≤ 2048) : wpX_size (fun r => wpY_size (fun r' => r' = r ∧ i_Rel (k + 4) u v) v) u := by
  obtain ⟨l, hG, hX, hY⟩ := I
  exact xsz hX (ysz hY ⟨rfl, l, hG, hX, hY⟩)
theorem i_vc_has {k : Nat} {u : SX} {v : SY} (I : i_Rel k u v) (hk : k + 4 ≤ 2048) (v1 : Int32) (v2 : Int32) : wpX_has (fun r => wpY_has (fun r' => r' = r ∧ i_Rel (k + 4) u v) v v1 v2) u v1 v2 := by
  obtain ⟨l, hG, hX, hY⟩ := I
  by_cases hc : gf_C v1 ∧ gf_C v2
  · obtain ⟨⟨a, ha, rfl⟩, b, hb, rfl⟩ := hc
    refine xha hG hX ha hb (fun h1 => yha hG hY ha hb (fun _ => ⟨rfl, l, hG, hX, hY⟩) (fun h0 => ?_)) (fun h0 => yha hG hY ha hb (fun h1 => ?_) (fun _ => ⟨rfl, l, hG, hX, hY⟩))
    · rw [h1] at h0; cases h0
    · rw [h1] at h0; cases h0
  · exact xha_f hc (yha_f hc ⟨rfl, l, hG, hX, hY⟩)
theorem i_vc_valueAt {k : Nat} {u : SX} {v : SY} (I : i_Rel k u v) (hk : k + 4 ≤ 2048) (v1 : Int32) (v2 : Int32) : wpX_valueAt (fun r => wpY_valueAt (fun r' => r' = r ∧ i_Rel (k + 4) u v) v v1 v2) u v1 v2 := by
  obtain ⟨l, hG, hX, hY⟩ := I
  by_cases hc : gf_C v1 ∧ gf_C v2
  · obtain ⟨⟨a, ha, rfl⟩, b, hb, rfl⟩ := hc
    refine xva hG hX ha hb (fun p hp ep => yva hG hY ha hb (fun q hq eq => ⟨?_, l, hG, hX, hY⟩) (fun h0 => ?_)) (fun h0 => yva hG hY ha hb (fun q hq eq => ?_) (fun _ => ⟨rfl, l, hG, hX, hY⟩))
    · rw [gf_Dm hG.1 hq hp (eq.trans ep.symm)]
    · exact absurd ep (gf_h_n h0 p hp)
    · exact absurd eq (gf_h_n h0 q hq)
  · exact xva_f hc (yva_f hG hY hc ⟨rfl, l, hG, hX, hY⟩)
theorem xct_f {post : Int32 → Prop} {u : SX} {x y : Int32} (hc : ¬ gf_R x y) (h : post (-1)) : wpX_count post u x y := by
  obtain ⟨f, P, V⟩ := u
  unfold wpX_count
  dsimp only
  exact xr_f hc (br_t rfl h)
theorem yct_f {post : Int32 → Prop} {u : SY} {x y : Int32} (hc : ¬ gf_R x y) (h : post (-1)) : wpY_count post u x y := by
  obtain ⟨f, A, B, C⟩ := u
  unfold wpY_count
  dsimp only
  exact yr_f hc (br_f (by decide) h)
theorem i_vc_count {k : Nat} {u : SX} {v : SY} (I : i_Rel k u v) (hk : k + 4 ≤ 2048) (v1 : Int32) (v2 : Int32) : wpX_count (fun r => wpY_count (fun r' => r' = r ∧ i_Rel (k + 4) u v) v v1 v2) u v1 v2 := by
  obtain ⟨l, hG, hX, hY⟩ := I
  by_cases hc : gf_R v1 v2
  · obtain ⟨lo, hi, hlo, hhi, rfl, rfl, r1, r2⟩ := hc
    exact xct hG hX hlo hhi r1 r2 (yct hG hY hlo hhi r1 r2 ⟨rfl, l, hG, hX, hY⟩)
  · exact xct_f hc (yct_f hc ⟨rfl, l, hG, hX, hY⟩)
theorem xsu_f {post : Int32 → Prop} {u : SX} {x y : Int32} (hc : ¬ gf_R x y) (h : post 0) : wpX_sum post u x y := by
  obtain ⟨f, P, V⟩ := u
  unfold wpX_sum
  dsimp only
  exact xr_f hc (br_t rfl h)
theorem ysu_f {post : Int32 → Prop} {u : SY} {x y : Int32} (hc : ¬ gf_R x y) (h : post 0) : wpY_sum post u x y := by
  obtain ⟨f, A, B, C⟩ := u
  unfold wpY_sum
  dsimp only
  exact yr_f hc (br_f (by decide) h)
theorem i_vc_sum {k : Nat} {u : SX} {v : SY} (I : i_Rel k u v) (hk : k + 4 ≤ 2048) (v1 : Int32) (v2 : Int32) : wpX_sum (fun r => wpY_sum (fun r' => r' = r ∧ i_Rel (k + 4) u v) v v1 v2) u v1 v2 := by
  obtain ⟨l, hG, hX, hY⟩ := I
  by_cases hc : gf_R v1 v2
  · obtain ⟨lo, hi, hlo, hhi, rfl, rfl, r1, r2⟩ := hc
    exact xsu hG hX hlo hhi r1 r2 (ysu hG hY hlo hhi r1 r2 ⟨rfl, l, hG, hX, hY⟩)
  · exact xsu_f hc (ysu_f hc ⟨rfl, l, hG, hX, hY⟩)
theorem xmo_f {post : Int32 → Prop} {u : SX} {x y : Int32} (hc : ¬ gf_R x y) (h : post (-2147483648)) : wpX_most post u x y := by
  obtain ⟨f, P, V⟩ := u
  unfold wpX_most
  dsimp only
  exact xr_f hc (br_t rfl h)
theorem ymo_f {post : Int32 → Prop} {u : SY} {x y : Int32} (hc : ¬ gf_R x y) (h : post (-2147483648)) : wpY_most post u x y := by
  obtain ⟨f, A, B, C⟩ := u
  unfold wpY_most
  dsimp only
  exact yr_f hc (br_f (by decide) h)
theorem i_vc_most {k : Nat} {u : SX} {v : SY} (I : i_Rel k u v) (hk : k + 4 ≤ 2048) (v1 : Int32) (v2 : Int32) : wpX_most (fun r => wpY_most (fun r' => r' = r ∧ i_Rel (k + 4) u v) v v1 v2) u v1 v2 := by
  obtain ⟨l, hG, hX, hY⟩ := I
  by_cases hc : gf_R v1 v2
  · obtain ⟨lo, hi, hlo, hhi, rfl, rfl, r1, r2⟩ := hc
    exact xmo hG hX hlo hhi r1 r2 (ymo hG hY hlo hhi r1 r2 ⟨rfl, l, hG, hX, hY⟩)
  · exact xmo_f hc (ymo_f hc ⟨rfl, l, hG, hX, hY⟩)
theorem xpt_f {post : Int32 → Prop} {u : SX} {x y z : Int32} (hc : ¬ gf_R x y) (h : post (-1)) : wpX_point post u x y z := by
  obtain ⟨f, P, V⟩ := u
  unfold wpX_point
  dsimp only
  exact xr_f hc (br_t rfl h)
theorem ypt_f {post : Int32 → Prop} {u : SY} {x y z : Int32} (hc : ¬ gf_R x y) (h : post (-1)) : wpY_point post u x y z := by
  obtain ⟨f, A, B, C⟩ := u
  unfold wpY_point
  dsimp only
  exact yr_f hc (br_f (by decide) h)
theorem i_vc_point {k : Nat} {u : SX} {v : SY} (I : i_Rel k u v) (hk : k + 4 ≤ 2048) (v1 : Int32) (v2 : Int32) (v3 : Int32) : wpX_point (fun r => wpY_point (fun r' => r' = r ∧ i_Rel (k + 4) u v) v v1 v2 v3) u v1 v2 v3 := by
  obtain ⟨l, hG, hX, hY⟩ := I
  by_cases hc : gf_R v1 v2
  · obtain ⟨lo, hi, hlo, hhi, rfl, rfl, r1, r2⟩ := hc
    exact xpt hG hX hlo hhi r1 r2 (fun m hS hm => ypt hG hY hlo hhi r1 r2 hS hm ⟨rfl, l, hG, hX, hY⟩)
  · exact xpt_f hc (ypt_f hc ⟨rfl, l, hG, hX, hY⟩)
theorem i_vc_nearest {k : Nat} {u : SX} {v : SY} (I : i_Rel k u v) (hk : k + 4 ≤ 2048) (v1 : Int32) (v2 : Int32) : wpX_nearest (fun r => wpY_nearest (fun r' => r' = r ∧ i_Rel (k + 4) u v) v v1 v2) u v1 v2 := by
  obtain ⟨l, hG, hX, hY⟩ := I
  by_cases hc : gf_C v1 ∧ gf_C v2
  · obtain ⟨⟨a, ha, rfl⟩, b, hb, rfl⟩ := hc
    exact xne hG hX ha hb (yne hG hY ha hb ⟨rfl, l, hG, hX, hY⟩)
  · exact xne_f hc (yne_f hc ⟨rfl, l, hG, hX, hY⟩)
theorem i_vc_within {k : Nat} {u : SX} {v : SY} (I : i_Rel k u v) (hk : k + 4 ≤ 2048) (v1 : Int32) (v2 : Int32) (v3 : Int32) : wpX_within (fun r => wpY_within (fun r' => r' = r ∧ i_Rel (k + 4) u v) v v1 v2 v3) u v1 v2 v3 := by
  obtain ⟨l, hG, hX, hY⟩ := I
  by_cases hc : gf_C v1 ∧ gf_C v2
  · obtain ⟨⟨a, ha, rfl⟩, b, hb, rfl⟩ := hc
    exact xwi hG hX ha hb (ywi hG hY ha hb ⟨rfl, l, hG, hX, hY⟩)
  · exact xwi_f hc (ywi_f hc ⟨rfl, l, hG, hX, hY⟩)
theorem i_vc_closest {k : Nat} {u : SX} {v : SY} (I : i_Rel k u v) (hk : k + 4 ≤ 2048) : wpX_closest (fun r => wpY_closest (fun r' => r' = r ∧ i_Rel (k + 4) u v) v) u := by
  obtain ⟨l, hG, hX, hY⟩ := I
  exact xcs hG hX (fun s hs => ycs hG hY (fun t ht => ⟨by rw [gf_mi_u hs ht], l, hG, hX, hY⟩))
theorem i_vc_line {k : Nat} {u : SX} {v : SY} (I : i_Rel k u v) (hk : k + 4 ≤ 2048) (v1 : Int32) (v2 : Int32) : wpX_line (fun r => wpY_line (fun r' => r' = r ∧ i_Rel (k + 4) u v) v v1 v2) u v1 v2 := by
  obtain ⟨l, hG, hX, hY⟩ := I
  by_cases hv : v1 = 0 ∨ v1 = 1
  · by_cases hc : gf_C v2
    · exact xli hG hX hv hc (yli hG hY hv hc ⟨rfl, l, hG, hX, hY⟩)
    · exact xli_f2 hv hc (yli_f2 hv hc ⟨rfl, l, hG, hX, hY⟩)
  · exact xli_f1 hv (yli_f1 hv ⟨rfl, l, hG, hX, hY⟩)
theorem i_vc_frontier {k : Nat} {u : SX} {v : SY} (I : i_Rel k u v) (hk : k + 4 ≤ 2048) : wpX_frontier (fun r => wpY_frontier (fun r' => r' = r ∧ i_Rel (k + 4) u v) v) u := by
  obtain ⟨l, hG, hX, hY⟩ := I
  exact xfr hG hX (yfr hG hY ⟨rfl, l, hG, hX, hY⟩)
