/-! size, has, valueAt, count, sum, most, within, line -/
theorem gf_AXl {l : List (Nat × Int32)} {m : List (Nat × Int32)} (h : m.Perm l) : nI m.length = nI l.length := by rw [h.length_eq]
theorem xsz {post : Int32 → Prop} {l : List (Nat × Int32)} {u : SX} (hA : gf_AX l u) (h : post (nI l.length)) : wpX_size post u := by
  obtain ⟨m, P, V, rfl, hX, hS, hm⟩ := hA
  unfold wpX_size
  dsimp only
  rw [hm.length_eq]
  exact h
theorem ysz {post : Int32 → Prop} {l : List (Nat × Int32)} {u : SY} (hA : gf_AY l u) (h : post (nI l.length)) : wpY_size post u := by
  obtain ⟨m, A, B, C, rfl, hY, hm⟩ := hA
  unfold wpY_size
  dsimp only
  rw [hm.length_eq]
  exact h
theorem xha {post : Int32 → Prop} {l : List (Nat × Int32)} {u : SX} {x y : Nat} (hG : gf_G l) (hA : gf_AX l u) (hx : x < 32) (hy : y < 32) (h1 : gf_h l (32 * x + y) = true → post 1) (h0 : gf_h l (32 * x + y) = false → post 0) : wpX_has post u (nI x) (nI y) := by
  obtain ⟨m, P, V, rfl, hX, hS, hm⟩ := hA
  have hG' := gf_Gp hm.symm hG
  have hl := hG'.2.2
  rw [← gf_h_p hm] at h1 h0
  unfold wpX_has
  dsimp only
  refine xg_t hx hy (br_f (by decide) ?_)
  rw [gf_pl]
  refine xs hX hG' (by omega) ?_ ?_
  · intro i a e ea
    have hi := gf_lt e
    exact br_f (nI_pos (by omega)) (h1 (gf_h_t (gf_mem e) ea))
  · intro hn
    exact br_t (by decide) (h0 (gf_h_f hn))
theorem yha {post : Int32 → Prop} {l : List (Nat × Int32)} {u : SY} {x y : Nat} (hG : gf_G l) (hA : gf_AY l u) (hx : x < 32) (hy : y < 32) (h1 : gf_h l (32 * x + y) = true → post 1) (h0 : gf_h l (32 * x + y) = false → post 0) : wpY_has post u (nI x) (nI y) := by
  obtain ⟨m, A, B, C, rfl, hY, hm⟩ := hA
  have hG' := gf_Gp hm.symm hG
  have hl := hG'.2.2
  rw [← gf_h_p hm] at h1 h0
  unfold wpY_has
  dsimp only
  refine yb_t hx (br_t rfl (yb_t hy (br_t rfl (yfq hY hG' hx hy ?_ ?_))))
  · intro i a e ea
    have hi := gf_lt e
    exact br_f (nI_pos (by omega)) (h1 (gf_h_t (gf_mem e) ea))
  · intro hn
    exact br_t (by decide) (h0 (gf_h_f hn))
theorem xha_f {post : Int32 → Prop} {u : SX} {x y : Int32} (hc : ¬ (gf_C x ∧ gf_C y)) (h : post (-1)) : wpX_has post u x y := by
  obtain ⟨f, P, V⟩ := u
  unfold wpX_has
  dsimp only
  exact xg_f hc (br_t rfl h)
theorem yha_f {post : Int32 → Prop} {u : SY} {x y : Int32} (hc : ¬ (gf_C x ∧ gf_C y)) (h : post (-1)) : wpY_has post u x y := by
  obtain ⟨f, A, B, C⟩ := u
  unfold wpY_has
  dsimp only
  by_cases hx : gf_C x
  · have hy := gf_n0 hc hx
    obtain ⟨a, ha, rfl⟩ := hx
    exact yb_t ha (br_t rfl (yb_f hy (br_f (by decide) h)))
  · exact yb_f hx (br_f (by decide) h)
theorem xva {post : Int32 → Prop} {l : List (Nat × Int32)} {u : SX} {x y : Nat} (hG : gf_G l) (hA : gf_AX l u) (hx : x < 32) (hy : y < 32) (h1 : ∀ a ∈ l, a.1 = 32 * x + y → post a.2) (h0 : gf_h l (32 * x + y) = false → post 0) : wpX_valueAt post u (nI x) (nI y) := by
  obtain ⟨m, P, V, rfl, hX, hS, hm⟩ := hA
  have hG' := gf_Gp hm.symm hG
  have hl := hG'.2.2
  rw [← gf_h_p hm] at h0
  unfold wpX_valueAt
  dsimp only
  refine xg_t hx hy (br_f (by decide) ?_)
  rw [gf_pl]
  refine xs hX hG' (by omega) ?_ ?_
  · intro i a e ea
    have hi := gf_lt e
    refine br_f (nI_pos (by omega)) ⟨vp_in_nI (by omega) (by omega), ?_⟩
    rw [(gf_Xc hX hl e).2]
    exact h1 a (hm.mem_iff.mp (gf_mem e)) ea
  · intro hn
    exact br_t (by decide) (h0 (gf_h_f hn))
theorem yva {post : Int32 → Prop} {l : List (Nat × Int32)} {u : SY} {x y : Nat} (hG : gf_G l) (hA : gf_AY l u) (hx : x < 32) (hy : y < 32) (h1 : ∀ a ∈ l, a.1 = 32 * x + y → post a.2) (h0 : gf_h l (32 * x + y) = false → post 0) : wpY_valueAt post u (nI x) (nI y) := by
  obtain ⟨m, A, B, C, rfl, hY, hm⟩ := hA
  have hG' := gf_Gp hm.symm hG
  have hl := hG'.2.2
  rw [← gf_h_p hm] at h0
  unfold wpY_valueAt
  dsimp only
  refine yfq hY hG' hx hy ?_ ?_
  · intro i a e ea
    have hi := gf_lt e
    refine br_t (nI_pos' (by omega)) ⟨vp_in_nI (by omega) (by omega), ?_⟩
    rw [(gf_Yc hY hl e).2.2]
    exact h1 a (hm.mem_iff.mp (gf_mem e)) ea
  · intro hn
    exact br_f (by decide) (h0 (gf_h_f hn))
theorem xva_f {post : Int32 → Prop} {u : SX} {x y : Int32} (hc : ¬ (gf_C x ∧ gf_C y)) (h : post 0) : wpX_valueAt post u x y := by
  obtain ⟨f, P, V⟩ := u
  unfold wpX_valueAt
  dsimp only
  exact xg_f hc (br_t rfl h)
theorem yva_f {post : Int32 → Prop} {l : List (Nat × Int32)} {u : SY} {x y : Int32} (hG : gf_G l) (hA : gf_AY l u) (hc : ¬ (gf_C x ∧ gf_C y)) (h : post 0) : wpY_valueAt post u x y := by
  obtain ⟨m, A, B, C, rfl, hY, hm⟩ := hA
  have hG' := gf_Gp hm.symm hG
  unfold wpY_valueAt
  dsimp only
  refine yf hY hG' ?_ ?_
  · intro i a e h1 h2
    have := hG'.2.1 a (gf_mem e)
    exact absurd ⟨⟨a.1 / 32, by omega, h1.symm⟩, ⟨a.1 % 32, by omega, h2.symm⟩⟩ hc
  · intro _
    exact br_f (by decide) h
theorem xct {post : Int32 → Prop} {l : List (Nat × Int32)} {u : SX} {lo hi : Nat} (hG : gf_G l) (hA : gf_AX l u) (hlo : lo < 1024) (hhi : hi < 1024) (r1 : lo / 32 ≤ hi / 32) (r2 : lo % 32 ≤ hi % 32) (h : post (nI (l.countP (gf_ins lo hi)))) : wpX_count post u (nI lo) (nI hi) := by
  obtain ⟨m, P, V, rfl, hX, hS, hm⟩ := hA
  have hG' := gf_Gp hm.symm hG
  have hl := hG'.2.2
  rw [← hm.countP_eq] at h
  unfold wpX_count
  dsimp only
  refine xr_t hlo hhi r1 r2 (br_f (by decide) ?_)
  refine gf_count (fun n s i => wX_count_15 post (nI lo) (nI hi) (nI m.length) P V n (nI s) (nI i)) m (gf_ins lo hi) (fun s => post (nI s)) ?_ ?_ h
  · intro n s hp
    exact br_t (nI_le (Nat.le_refl _) (by omega)) hp
  · intro n s i a e h1 h0
    have hlt := gf_lt e
    exact br_f (nI_ge (by omega) (by omega)) ⟨vp_in_nI (by omega) (by omega), xi (gf_Xc hX hl e).1 (hG'.2.1 a (gf_mem e)) hlo hhi (fun z => br_f (by decide) (nm_r (nI_1 s) (nm_r (nI_1 i) (h1 z)))) (fun z => br_t rfl (nm_r (nI_1 i) (h0 z)))⟩
theorem yct {post : Int32 → Prop} {l : List (Nat × Int32)} {u : SY} {lo hi : Nat} (hG : gf_G l) (hA : gf_AY l u) (hlo : lo < 1024) (hhi : hi < 1024) (r1 : lo / 32 ≤ hi / 32) (r2 : lo % 32 ≤ hi % 32) (h : post (nI (l.countP (gf_ins lo hi)))) : wpY_count post u (nI lo) (nI hi) := by
  obtain ⟨m, A, B, C, rfl, hY, hm⟩ := hA
  have hG' := gf_Gp hm.symm hG
  have hl := hG'.2.2
  rw [← hm.countP_eq] at h
  unfold wpY_count
  dsimp only
  refine yr_t hlo hhi r1 r2 (br_t rfl ?_)
  refine gf_count (fun n s i => wY_count_16 post (nI lo) (nI hi) (nI m.length) A B C n (nI s) (nI i)) m (gf_ins lo hi) (fun s => post (nI s)) ?_ ?_ h
  · intro n s hp
    exact br_t (nI_le (Nat.le_refl _) (by omega)) hp
  · intro n s i a e h1 h0
    have hlt := gf_lt e
    exact br_f (nI_ge (by omega) (by omega)) (br_f (nI_ge (b := 40) (by omega) (by decide)) (yi hY hG' e hlo hhi (fun z => br_f (by decide) (nm_r (nI_1 s) (nm_r (nI_1 i) (h1 z)))) (fun z => br_t rfl (nm_r (nI_1 i) (h0 z)))))
/-- the sum's step, the greatest's step -/
def gf_su (lo hi : Nat) (s : Int32) (a : Nat × Int32) : Int32 := if gf_in lo hi a.1 = true then s + a.2 else s
def gf_mo (lo hi : Nat) (s : Int32) (a : Nat × Int32) : Int32 := if gf_in lo hi a.1 = true then (if a.2 ≤ s then s else a.2) else s
theorem gf_su_t {lo hi : Nat} {s : Int32} {a : Nat × Int32} (h : gf_in lo hi a.1 = true) : gf_su lo hi s a = s + a.2 := if_pos h
theorem gf_su_f {lo hi : Nat} {s : Int32} {a : Nat × Int32} (h : gf_in lo hi a.1 = false) : gf_su lo hi s a = s := if_neg (by rw [h]; decide)
theorem gf_mo_t {lo hi : Nat} {s : Int32} {a : Nat × Int32} (h : gf_in lo hi a.1 = true) (h2 : a.2 ≤ s) : gf_mo lo hi s a = s := (if_pos h).trans (if_pos h2)
theorem gf_mo_g {lo hi : Nat} {s : Int32} {a : Nat × Int32} (h : gf_in lo hi a.1 = true) (h2 : ¬ a.2 ≤ s) : gf_mo lo hi s a = a.2 := (if_pos h).trans (if_neg h2)
theorem gf_mo_f {lo hi : Nat} {s : Int32} {a : Nat × Int32} (h : gf_in lo hi a.1 = false) : gf_mo lo hi s a = s := if_neg (by rw [h]; decide)
theorem gf_su_p {l m : List (Nat × Int32)} (h : l.Perm m) (lo hi : Nat) (s : Int32) : l.foldl (gf_su lo hi) s = m.foldl (gf_su lo hi) s := by
  refine h.foldl_eq' ?_ s
  intro x _ y _ z
  unfold gf_su
  by_cases h1 : gf_in lo hi x.1 = true
  · by_cases h2 : gf_in lo hi y.1 = true
    · rw [if_pos h1, if_pos h2, if_pos h1, if_pos h2, Int32.add_assoc, Int32.add_assoc, Int32.add_comm x.2]
    · rw [if_pos h1, if_neg h2, if_pos h1, if_neg h2]
  · by_cases h2 : gf_in lo hi y.1 = true
    · rw [if_neg h1, if_pos h2, if_neg h1]
    · rw [if_neg h1, if_neg h2, if_neg h1]
theorem gf_mx (x y z : Int32) : (if y ≤ (if x ≤ z then z else x) then (if x ≤ z then z else x) else y) = (if x ≤ (if y ≤ z then z else y) then (if y ≤ z then z else y) else x) := by
  have e : ∀ a b : Int32, (if a ≤ b then b else a).toInt = (if a.toInt ≤ b.toInt then b.toInt else a.toInt) := by
    intro a b
    by_cases h : a ≤ b
    · rw [if_pos h, if_pos (Int32.le_iff_toInt_le.mp h)]
    · rw [if_neg h, if_neg (fun z => h (Int32.le_iff_toInt_le.mpr z))]
  apply Int32.toInt_inj.mp
  rw [e, e, e, e]
  omega
theorem gf_mo_p {l m : List (Nat × Int32)} (h : l.Perm m) (lo hi : Nat) (s : Int32) : l.foldl (gf_mo lo hi) s = m.foldl (gf_mo lo hi) s := by
  refine h.foldl_eq' ?_ s
  intro x _ y _ z
  unfold gf_mo
  by_cases h1 : gf_in lo hi x.1 = true
  · by_cases h2 : gf_in lo hi y.1 = true
    · rw [if_pos h1, if_pos h2, if_pos h1, if_pos h2]
      exact gf_mx x.2 y.2 z
    · rw [if_pos h1, if_neg h2, if_pos h1, if_neg h2]
  · by_cases h2 : gf_in lo hi y.1 = true
    · rw [if_neg h1, if_pos h2, if_neg h1]
    · rw [if_neg h1, if_neg h2, if_neg h1]
theorem xsu {post : Int32 → Prop} {l : List (Nat × Int32)} {u : SX} {lo hi : Nat} (hG : gf_G l) (hA : gf_AX l u) (hlo : lo < 1024) (hhi : hi < 1024) (r1 : lo / 32 ≤ hi / 32) (r2 : lo % 32 ≤ hi % 32) (h : post (l.foldl (gf_su lo hi) 0)) : wpX_sum post u (nI lo) (nI hi) := by
  obtain ⟨m, P, V, rfl, hX, hS, hm⟩ := hA
  have hG' := gf_Gp hm.symm hG
  have hl := hG'.2.2
  rw [← gf_su_p hm] at h
  unfold wpX_sum
  dsimp only
  refine xr_t hlo hhi r1 r2 (br_f (by decide) ⟨m.length + 1, ?_⟩)
  refine gf_loop (fun n s i => wX_sum_15 post (nI lo) (nI hi) (nI m.length) P V n s (nI i)) m (gf_su lo hi) (fun _ _ => True) post ?_ ?_ (fun _ _ _ _ _ => trivial) 0 trivial h
  · intro n s _ hp
    exact br_t (nI_le (Nat.le_refl _) (by omega)) hp
  · intro n s i a e _ hw
    have hlt := gf_lt e
    have c := gf_Xc hX hl e
    have vi : vp_in (nI i) 40 := vp_in_nI (by omega) (by omega)
    refine br_f (nI_ge (by omega) (by omega)) ⟨vi, xi c.1 (hG'.2.1 a (gf_mem e)) hlo hhi (fun z => br_f (by decide) ⟨vi, nm_r (e' := gf_su lo hi s a) ?_ (nm_r (nI_1 i) hw)⟩) (fun z => br_t rfl (nm_r (nI_1 i) ?_))⟩
    · rw [gf_su_t z, c.2]
    · rw [gf_su_f z] at hw
      exact hw
theorem ysu {post : Int32 → Prop} {l : List (Nat × Int32)} {u : SY} {lo hi : Nat} (hG : gf_G l) (hA : gf_AY l u) (hlo : lo < 1024) (hhi : hi < 1024) (r1 : lo / 32 ≤ hi / 32) (r2 : lo % 32 ≤ hi % 32) (h : post (l.foldl (gf_su lo hi) 0)) : wpY_sum post u (nI lo) (nI hi) := by
  obtain ⟨m, A, B, C, rfl, hY, hm⟩ := hA
  have hG' := gf_Gp hm.symm hG
  have hl := hG'.2.2
  rw [← gf_su_p hm] at h
  unfold wpY_sum
  dsimp only
  refine yr_t hlo hhi r1 r2 (br_t rfl ⟨m.length + 1, ?_⟩)
  refine gf_loop (fun n s i => wY_sum_16 post (nI lo) (nI hi) (nI m.length) A B C n s (nI i)) m (gf_su lo hi) (fun _ _ => True) post ?_ ?_ (fun _ _ _ _ _ => trivial) 0 trivial h
  · intro n s _ hp
    exact br_t (nI_le (Nat.le_refl _) (by omega)) hp
  · intro n s i a e _ hw
    have hlt := gf_lt e
    have c := gf_Yc hY hl e
    have vi : vp_in (nI i) 40 := vp_in_nI (by omega) (by omega)
    refine br_f (nI_ge (by omega) (by omega)) (br_f (nI_ge (b := 40) (by omega) (by decide)) (yi hY hG' e hlo hhi (fun z => br_f (by decide) ⟨vi, nm_r (e' := gf_su lo hi s a) ?_ (nm_r (nI_1 i) hw)⟩) (fun z => br_t rfl (nm_r (nI_1 i) ?_))))
    · rw [gf_su_t z, c.2.2]
    · rw [gf_su_f z] at hw
      exact hw
theorem xmo {post : Int32 → Prop} {l : List (Nat × Int32)} {u : SX} {lo hi : Nat} (hG : gf_G l) (hA : gf_AX l u) (hlo : lo < 1024) (hhi : hi < 1024) (r1 : lo / 32 ≤ hi / 32) (r2 : lo % 32 ≤ hi % 32) (h : post (l.foldl (gf_mo lo hi) (-2147483648))) : wpX_most post u (nI lo) (nI hi) := by
  obtain ⟨m, P, V, rfl, hX, hS, hm⟩ := hA
  have hG' := gf_Gp hm.symm hG
  have hl := hG'.2.2
  rw [← gf_mo_p hm] at h
  unfold wpX_most
  dsimp only
  refine xr_t hlo hhi r1 r2 (br_f (by decide) ⟨m.length + 1, ?_⟩)
  refine gf_loop (fun n s i => wX_most_17 post (nI lo) (nI hi) (nI m.length) P V n s (nI i)) m (gf_mo lo hi) (fun _ _ => True) post ?_ ?_ (fun _ _ _ _ _ => trivial) _ trivial h
  · intro n s _ hp
    exact br_t (nI_le (Nat.le_refl _) (by omega)) hp
  · intro n s i a e _ hw
    have hlt := gf_lt e
    have c := gf_Xc hX hl e
    have vi : vp_in (nI i) 40 := vp_in_nI (by omega) (by omega)
    refine br_f (nI_ge (by omega) (by omega)) ⟨vi, xi c.1 (hG'.2.1 a (gf_mem e)) hlo hhi (fun z => br_f (by decide) ⟨vi, br_c (fun y => nm_r (nI_1 i) ?_) (fun y => ⟨vi, nm_r (e' := gf_mo lo hi s a) ?_ (nm_r (nI_1 i) hw)⟩)⟩) (fun z => br_t rfl (nm_r (nI_1 i) ?_))⟩
    · rw [c.2] at y
      rw [gf_mo_t z y] at hw
      exact hw
    · rw [c.2] at y ⊢
      rw [gf_mo_g z y]
    · rw [gf_mo_f z] at hw
      exact hw
theorem ymo {post : Int32 → Prop} {l : List (Nat × Int32)} {u : SY} {lo hi : Nat} (hG : gf_G l) (hA : gf_AY l u) (hlo : lo < 1024) (hhi : hi < 1024) (r1 : lo / 32 ≤ hi / 32) (r2 : lo % 32 ≤ hi % 32) (h : post (l.foldl (gf_mo lo hi) (-2147483648))) : wpY_most post u (nI lo) (nI hi) := by
  obtain ⟨m, A, B, C, rfl, hY, hm⟩ := hA
  have hG' := gf_Gp hm.symm hG
  have hl := hG'.2.2
  rw [← gf_mo_p hm] at h
  unfold wpY_most
  dsimp only
  refine yr_t hlo hhi r1 r2 (br_t rfl ⟨m.length + 1, ?_⟩)
  refine gf_loop (fun n s i => wY_most_17 post (nI lo) (nI hi) (nI m.length) A B C n s (nI i)) m (gf_mo lo hi) (fun _ _ => True) post ?_ ?_ (fun _ _ _ _ _ => trivial) _ trivial h
  · intro n s _ hp
    exact br_t (nI_le (Nat.le_refl _) (by omega)) hp
  · intro n s i a e _ hw
    have hlt := gf_lt e
    have c := gf_Yc hY hl e
    have vi : vp_in (nI i) 40 := vp_in_nI (by omega) (by omega)
    refine br_f (nI_ge (by omega) (by omega)) (br_f (nI_ge (b := 40) (by omega) (by decide)) (yi hY hG' e hlo hhi (fun z => br_f (by decide) ⟨vi, br_c (fun y => nm_r (nI_1 i) ?_) (fun y => ⟨vi, nm_r (e' := gf_mo lo hi s a) ?_ (nm_r (nI_1 i) hw)⟩)⟩) (fun z => br_t rfl (nm_r (nI_1 i) ?_))))
    · rw [c.2.2] at y
      rw [gf_mo_t z y] at hw
      exact hw
    · rw [c.2.2] at y ⊢
      rw [gf_mo_g z y]
    · rw [gf_mo_f z] at hw
      exact hw
/-! distances -/
def gf_d (p q : Nat) : Int32 := (nI (p / 32) - nI (q / 32)) * (nI (p / 32) - nI (q / 32)) + (nI (p % 32) - nI (q % 32)) * (nI (p % 32) - nI (q % 32))
theorem xd {post : Int32 → Prop} {x y : Int32} {p q : Nat} (ex : x = nI p) (ey : y = nI q) (hp : p < 1024) (hq : q < 1024) (h : post (gf_d p q)) : wpX_distance post x y := by
  subst ex ey
  unfold wpX_distance
  rw [gf_rem hp, gf_rem hq, gf_div hp, gf_div hq]
  exact ⟨by decide, by decide, nm_e ⟨by decide, by decide, nm_e h⟩⟩
theorem yd {post : Int32 → Prop} {l : List (Nat × Int32)} {A B C : Nat → Int32} {s : Int32} {i q : Nat} {a : Nat × Int32} {x y : Int32} (hY : gf_Y l A B C) (hl : l.length ≤ 40) (e : l[i]? = some a) (ex : x = nI (q / 32)) (ey : y = nI (q % 32)) (h : post (gf_d a.1 q)) : wpY_apart post (s, A, B, C) (nI i) x y := by
  subst ex ey
  have hi := gf_lt e
  have c := gf_Yc hY hl e
  have vi : vp_in (nI i) 40 := vp_in_nI (by omega) (by omega)
  unfold wpY_apart
  dsimp only
  rw [c.1, c.2.1]
  exact ⟨vi, vi, vi, vi, h⟩
def gf_wi (q : Nat) (r : Int32) (a : Nat × Int32) : Bool := decide (¬ r < gf_d a.1 q)
theorem xwi {post : Int32 → Prop} {l : List (Nat × Int32)} {u : SX} {x y : Nat} {r : Int32} (hG : gf_G l) (hA : gf_AX l u) (hx : x < 32) (hy : y < 32) (h : post (nI (l.countP (gf_wi (32 * x + y) r)))) : wpX_within post u (nI x) (nI y) r := by
  obtain ⟨m, P, V, rfl, hX, hS, hm⟩ := hA
  have hG' := gf_Gp hm.symm hG
  have hl := hG'.2.2
  rw [← hm.countP_eq] at h
  unfold wpX_within
  dsimp only
  refine xg_t hx hy (br_f (by decide) (nm_r (gf_pl x y) ?_))
  refine gf_count (fun n s i => wX_within_24 post r (nI (32 * x + y)) (nI m.length) P V n (nI s) (nI i)) m (gf_wi (32 * x + y) r) (fun s => post (nI s)) ?_ ?_ h
  · intro n s hp
    exact br_t (nI_le (Nat.le_refl _) (by omega)) hp
  · intro n s i a e h1 h0
    have hlt := gf_lt e
    exact br_f (nI_ge (by omega) (by omega)) ⟨vp_in_nI (by omega) (by omega), xd (gf_Xc hX hl e).1 rfl (hG'.2.1 a (gf_mem e)) (by omega) (br_c (fun z => nm_r (nI_1 i) (h0 (decide_eq_false (fun w => w z)))) (fun z => nm_r (nI_1 s) (nm_r (nI_1 i) (h1 (decide_eq_true z)))))⟩
theorem ywi {post : Int32 → Prop} {l : List (Nat × Int32)} {u : SY} {x y : Nat} {r : Int32} (hG : gf_G l) (hA : gf_AY l u) (hx : x < 32) (hy : y < 32) (h : post (nI (l.countP (gf_wi (32 * x + y) r)))) : wpY_within post u (nI x) (nI y) r := by
  obtain ⟨m, A, B, C, rfl, hY, hm⟩ := hA
  have hG' := gf_Gp hm.symm hG
  have hl := hG'.2.2
  rw [← hm.countP_eq] at h
  unfold wpY_within
  dsimp only
  refine yb_t hx (br_t rfl (yb_t hy (br_t rfl ?_)))
  refine gf_count (fun n s i => wY_within_24 post (nI x) (nI y) r (nI m.length) A B C n (nI s) (nI i)) m (gf_wi (32 * x + y) r) (fun s => post (nI s)) ?_ ?_ h
  · intro n s hp
    exact br_t (nI_le (Nat.le_refl _) (by omega)) hp
  · intro n s i a e h1 h0
    have hlt := gf_lt e
    exact br_f (nI_ge (by omega) (by omega)) (br_f (nI_ge (b := 40) (by omega) (by decide)) (yd (q := 32 * x + y) hY hl e (congrArg nI (by omega)) (congrArg nI (by omega)) (br_c (fun z => nm_r (nI_1 i) (h0 (decide_eq_false (fun w => w z)))) (fun z => nm_r (nI_1 s) (nm_r (nI_1 i) (h1 (decide_eq_true z)))))))
theorem xwi_f {post : Int32 → Prop} {u : SX} {x y r : Int32} (hc : ¬ (gf_C x ∧ gf_C y)) (h : post (-1)) : wpX_within post u x y r := by
  obtain ⟨f, P, V⟩ := u
  unfold wpX_within
  dsimp only
  exact xg_f hc (br_t rfl h)
theorem ywi_f {post : Int32 → Prop} {u : SY} {x y r : Int32} (hc : ¬ (gf_C x ∧ gf_C y)) (h : post (-1)) : wpY_within post u x y r := by
  obtain ⟨f, A, B, C⟩ := u
  unfold wpY_within
  dsimp only
  by_cases hx : gf_C x
  · have hy := gf_n0 hc hx
    obtain ⟨a, ha, rfl⟩ := hx
    exact yb_t ha (br_t rfl (yb_f hy (br_f (by decide) h)))
  · exact yb_f hx (br_f (by decide) h)
/-! line -/
def gf_li (v x : Int32) (a : Nat × Int32) : Bool := if v = 0 then decide (nI (a.1 / 32) = x) else decide (nI (a.1 % 32) = x)
theorem xli {post : Int32 → Prop} {l : List (Nat × Int32)} {u : SX} {v x : Int32} (hG : gf_G l) (hA : gf_AX l u) (hv : v = 0 ∨ v = 1) (hx : gf_C x) (h : post (nI (l.countP (gf_li v x)))) : wpX_line post u v x := by
  obtain ⟨m, P, V, rfl, hX, hS, hm⟩ := hA
  have hG' := gf_Gp hm.symm hG
  have hl := hG'.2.2
  rw [← hm.countP_eq] at h
  have go : wX_line_11 post v x (nI m.length) P V := by
    unfold wX_line_11
    obtain ⟨c, hc, ec⟩ := hx
    have hxc : ∀ q : Int32 → Prop, q 1 → wpX_isCoordinate q x := fun q hq => by rw [ec]; exact xc_t hc hq
    refine hxc _ (br_f (by decide) ?_)
    refine gf_count (fun n s i => wX_line_26 post v x (nI m.length) P V n (nI s) (nI i)) m (gf_li v x) (fun s => post (nI s)) ?_ ?_ h
    · intro n s hp
      exact br_t (nI_le (Nat.le_refl _) (by omega)) hp
    · intro n s i a e h1 h0
      have hlt := gf_lt e
      have hb := hG'.2.1 a (gf_mem e)
      have vi : vp_in (nI i) 40 := vp_in_nI (by omega) (by omega)
      refine br_f (nI_ge (by omega) (by omega)) ?_
      rw [(gf_Xc hX hl e).1, gf_rem hb, gf_div hb]
      refine br_c (fun z => ⟨vi, by decide, br_c (fun y => nm_r (nI_1 s) (nm_r (nI_1 i) (h1 ?_))) (fun y => nm_r (nI_1 i) (h0 ?_))⟩) (fun z => ⟨vi, by decide, br_c (fun y => nm_r (nI_1 s) (nm_r (nI_1 i) (h1 ?_))) (fun y => nm_r (nI_1 i) (h0 ?_))⟩)
      · unfold gf_li; rw [if_pos z]; exact decide_eq_true y
      · unfold gf_li; rw [if_pos z]; exact decide_eq_false y
      · unfold gf_li; rw [if_neg z]; exact decide_eq_true y
      · unfold gf_li; rw [if_neg z]; exact decide_eq_false y
  unfold wpX_line
  dsimp only
  exact br_c (fun _ => go) (fun z => br_t (hv.resolve_left z) go)
theorem yli {post : Int32 → Prop} {l : List (Nat × Int32)} {u : SY} {v x : Int32} (hG : gf_G l) (hA : gf_AY l u) (hv : v = 0 ∨ v = 1) (hx : gf_C x) (h : post (nI (l.countP (gf_li v x)))) : wpY_line post u v x := by
  obtain ⟨m, A, B, C, rfl, hY, hm⟩ := hA
  have hG' := gf_Gp hm.symm hG
  have hl := hG'.2.2
  rw [← hm.countP_eq] at h
  have v0 : ¬ v < 0 := by rcases hv with rfl | rfl <;> decide
  have v1 : v ≤ 1 := by rcases hv with rfl | rfl <;> decide
  unfold wpY_line
  dsimp only
  obtain ⟨c, hc, ec⟩ := hx
  have hxc : ∀ q : Int32 → Prop, q 0 → wpY_bad q (nI m.length, A, B, C) x := fun q hq => by rw [ec]; exact yb_t hc hq
  refine br_f v0 (br_t v1 (hxc _ (br_t rfl ?_)))
  refine gf_count (fun n s i => wY_line_27 post v x (nI m.length) A B C n (nI s) (nI i)) m (gf_li v x) (fun s => post (nI s)) ?_ ?_ h
  · intro n s hp
    exact br_t (nI_le (Nat.le_refl _) (by omega)) hp
  · intro n s i a e h1 h0
    have hlt := gf_lt e
    have c := gf_Yc hY hl e
    have vi : vp_in (nI i) 40 := vp_in_nI (by omega) (by omega)
    refine br_f (nI_ge (by omega) (by omega)) (br_f (nI_ge (b := 40) (by omega) (by decide)) ?_)
    rw [c.1, c.2.1]
    refine br_c (fun z => ⟨vi, br_c (fun y => nm_r (nI_1 s) (nm_r (nI_1 i) (h1 ?_))) (fun y => nm_r (nI_1 i) (h0 ?_))⟩) (fun z => ⟨vi, br_c (fun y => nm_r (nI_1 s) (nm_r (nI_1 i) (h1 ?_))) (fun y => nm_r (nI_1 i) (h0 ?_))⟩)
    · unfold gf_li; rw [if_pos z]; exact decide_eq_true y
    · unfold gf_li; rw [if_pos z]; exact decide_eq_false y
    · unfold gf_li; rw [if_neg z]; exact decide_eq_true y
    · unfold gf_li; rw [if_neg z]; exact decide_eq_false y
theorem xli_f1 {post : Int32 → Prop} {u : SX} {v x : Int32} (hv : ¬ (v = 0 ∨ v = 1)) (h : post (-1)) : wpX_line post u v x := by
  obtain ⟨f, P, V⟩ := u
  unfold wpX_line
  dsimp only
  exact br_f (fun z => hv (Or.inl z)) (br_f (fun z => hv (Or.inr z)) h)
theorem yli_f1 {post : Int32 → Prop} {u : SY} {v x : Int32} (hv : ¬ (v = 0 ∨ v = 1)) (h : post (-1)) : wpY_line post u v x := by
  obtain ⟨f, A, B, C⟩ := u
  unfold wpY_line
  dsimp only
  by_cases v0 : v < 0
  · exact br_t v0 h
  · by_cases v1 : v ≤ 1
    · obtain ⟨j, hj, rfl⟩ := nI_of2 (M := 1) (n := 1) (by decide) v0 v1
      have : j = 0 ∨ j = 1 := by omega
      exact absurd (by rcases this with rfl | rfl; exact Or.inl rfl; exact Or.inr rfl) hv
    · exact br_f v0 (br_f v1 h)
theorem xli_f2 {post : Int32 → Prop} {u : SX} {v x : Int32} (hv : v = 0 ∨ v = 1) (hx : ¬ gf_C x) (h : post (-2)) : wpX_line post u v x := by
  obtain ⟨f, P, V⟩ := u
  have go : wX_line_11 post v x f P V := by
    unfold wX_line_11
    exact xc_f hx (br_t rfl h)
  unfold wpX_line
  dsimp only
  exact br_c (fun _ => go) (fun z => br_t (hv.resolve_left z) go)
theorem yli_f2 {post : Int32 → Prop} {u : SY} {v x : Int32} (hv : v = 0 ∨ v = 1) (hx : ¬ gf_C x) (h : post (-2)) : wpY_line post u v x := by
  obtain ⟨f, A, B, C⟩ := u
  have v0 : ¬ v < 0 := by rcases hv with rfl | rfl <;> decide
  have v1 : v ≤ 1 := by rcases hv with rfl | rfl <;> decide
  unfold wpY_line
  dsimp only
  exact br_f v0 (br_t v1 (yb_f hx (br_f (by decide) h)))
