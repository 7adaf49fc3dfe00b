/-! point, nearest, frontier, closest -/
def gf_pt (lo hi : Nat) (v : Int32) : List (Nat × Int32) → Nat → Int32
  | [], _ => -2
  | a :: t, c => if gf_in lo hi a.1 = true then (if nI c = v then nI a.1 else gf_pt lo hi v t (c + 1)) else gf_pt lo hi v t c
theorem gf_pt_f {lo hi : Nat} {v : Int32} {a : Nat × Int32} {t : List (Nat × Int32)} {c : Nat} (h : gf_in lo hi a.1 = false) : gf_pt lo hi v (a :: t) c = gf_pt lo hi v t c := if_neg (by rw [h]; decide)
theorem gf_pt_y {lo hi : Nat} {v : Int32} {a : Nat × Int32} {t : List (Nat × Int32)} {c : Nat} (h : gf_in lo hi a.1 = true) (h2 : nI c = v) : gf_pt lo hi v (a :: t) c = nI a.1 := (if_pos h).trans (if_pos h2)
theorem gf_pt_n {lo hi : Nat} {v : Int32} {a : Nat × Int32} {t : List (Nat × Int32)} {c : Nat} (h : gf_in lo hi a.1 = true) (h2 : ¬ nI c = v) : gf_pt lo hi v (a :: t) c = gf_pt lo hi v t (c + 1) := (if_pos h).trans (if_neg h2)
theorem xpt {post : Int32 → Prop} {l : List (Nat × Int32)} {u : SX} {lo hi : Nat} {v : Int32} (hG : gf_G l) (hA : gf_AX l u) (hlo : lo < 1024) (hhi : hi < 1024) (r1 : lo / 32 ≤ hi / 32) (r2 : lo % 32 ≤ hi % 32) (h : ∀ k, gf_S k → k.Perm l → post (gf_pt lo hi v k 0)) : wpX_point post u (nI lo) (nI hi) v := by
  obtain ⟨m, P, V, rfl, hX, hS, hm⟩ := hA
  have hG' := gf_Gp hm.symm hG
  have hl := hG'.2.2
  have key : ∀ d s c, s + d = m.length → post (gf_pt lo hi v (m.drop s) c) → wX_point_16 post (nI lo) (nI hi) v (nI m.length) P V (d + 1) (nI c) (nI s) := by
    intro d
    induction d with
    | zero =>
      intro s c hs hp
      rw [List.drop_eq_nil_of_le (by omega)] at hp
      exact br_t (nI_le (by omega) (by omega)) hp
    | succ d ih =>
      intro s c hs hp
      have hlt : s < m.length := by omega
      have e : m[s]? = some m[s] := List.getElem?_eq_getElem hlt
      have cc := gf_Xc hX hl e
      have vs : vp_in (nI s) 40 := vp_in_nI (by omega) (by omega)
      rw [List.drop_eq_getElem_cons hlt] at hp
      refine br_f (nI_ge (by omega) (by omega)) ⟨vs, xi cc.1 (hG'.2.1 _ (gf_mem e)) hlo hhi (fun z => br_f (by decide) (br_c (fun y => ⟨vs, ?_⟩) (fun y => nm_r (nI_1 c) (nm_r (nI_1 s) (ih (s + 1) (c + 1) (by omega) ?_))))) (fun z => br_t rfl (nm_r (nI_1 s) (ih (s + 1) c (by omega) ?_)))⟩
      · rw [gf_pt_y z y] at hp
        rw [cc.1]
        exact hp
      · rw [gf_pt_n z y] at hp
        exact hp
      · rw [gf_pt_f z] at hp
        exact hp
  unfold wpX_point
  dsimp only
  exact xr_t hlo hhi r1 r2 (br_f (by decide) ⟨m.length + 1, key m.length 0 0 (by omega) (by rw [List.drop_zero]; exact h m hS hm)⟩)
theorem ypt {post : Int32 → Prop} {l k : List (Nat × Int32)} {u : SY} {lo hi : Nat} {v : Int32} (hG : gf_G l) (hA : gf_AY l u) (hlo : lo < 1024) (hhi : hi < 1024) (r1 : lo / 32 ≤ hi / 32) (r2 : lo % 32 ≤ hi % 32) (hS : gf_S k) (hk : k.Perm l) (h : post (gf_pt lo hi v k 0)) : wpY_point post u (nI lo) (nI hi) v := by
  obtain ⟨m, A, B, C, rfl, hY, hm⟩ := hA
  have hG' := gf_Gp hm.symm hG
  have hl := hG'.2.2
  have mk : ∀ a, a ∈ k ↔ a ∈ m := fun a => hk.mem_iff.trans hm.mem_iff.symm
  have key : ∀ d p rest c, p + d = 1024 → gf_S rest → (∀ a, a ∈ rest ↔ (a ∈ m ∧ p ≤ a.1)) → post (gf_pt lo hi v rest c) → wY_point_17 post (nI lo) (nI hi) v (nI m.length) A B C (d + 1) (nI c) (nI p) := by
    intro d
    induction d with
    | zero =>
      intro p rest c hp hR hM h
      have e : rest = [] := by
        cases rest with
        | nil => rfl
        | cons a t =>
          have h1 := (hM a).mp List.mem_cons_self
          have h2 := hG'.2.1 a h1.1
          omega
      rw [e] at h
      exact br_t (nI_le (a := 1024) (by omega) (by omega)) h
    | succ d ih =>
      intro p rest c hp hR hM h
      have ep : 32 * (p / 32) + p % 32 = p := by omega
      refine br_f (nI_ge (b := 1024) (by omega) (by decide)) ?_
      rw [gf_rem (a := p) (by omega), gf_div (a := p) (by omega)]
      refine ⟨by decide, by decide, yfq hY hG' (by omega) (by omega) ?_ ?_⟩
      · intro i a e ea
        rw [ep] at ea
        have hi' := gf_lt e
        have ha : a ∈ rest := (hM a).mpr ⟨gf_mem e, by omega⟩
        cases rest with
        | nil => cases ha
        | cons b t =>
          have hR' := List.pairwise_cons.mp hR
          have hb := (hM b).mp List.mem_cons_self
          have eb : b = a := by
            rcases List.mem_cons.mp ha with z | z
            · exact z.symm
            · have := hR'.1 a z
              omega
          subst eb
          have hM' : ∀ a, a ∈ t ↔ (a ∈ m ∧ p + 1 ≤ a.1) := by
            intro x
            constructor
            · intro hx
              have h1 := (hM x).mp (List.mem_cons_of_mem _ hx)
              have h2 := hR'.1 x hx
              exact ⟨h1.1, by omega⟩
            · intro hx
              rcases List.mem_cons.mp ((hM x).mpr ⟨hx.1, by omega⟩) with z | z
              · rw [z] at hx
                omega
              · exact z
          refine br_f (nI_pos (by omega)) (yi hY hG' e hlo hhi (fun z => br_f (by decide) (br_c (fun y => ?_) (fun y => nm_r (nI_1 c) (nm_r (nI_1 p) (ih (p + 1) t (c + 1) (by omega) hR'.2 hM' ?_))))) (fun z => br_t rfl (nm_r (nI_1 p) (ih (p + 1) t c (by omega) hR'.2 hM' ?_))))
          · rw [gf_pt_y z y, ea] at h
            exact h
          · rw [gf_pt_n z y] at h
            exact h
          · rw [gf_pt_f z] at h
            exact h
      · intro hn
        rw [ep] at hn
        refine br_t (by decide) (nm_r (nI_1 p) (ih (p + 1) rest c (by omega) hR ?_ h))
        intro a
        rw [hM a]
        constructor
        · intro z
          have := hn a z.1
          exact ⟨z.1, by omega⟩
        · intro z
          exact ⟨z.1, by omega⟩
  unfold wpY_point
  dsimp only
  exact yr_t hlo hhi r1 r2 (br_t rfl ⟨1025, key 1024 0 k 0 (by omega) hS (fun a => (mk a).trans ⟨fun z => ⟨z, Nat.zero_le _⟩, fun z => z.1⟩) h⟩)
/-! distances as naturals -/
def gf_ad (a b : Nat) : Nat := (a - b) + (b - a)
def gf_dn (p q : Nat) : Nat := gf_ad (p / 32) (q / 32) * gf_ad (p / 32) (q / 32) + gf_ad (p % 32) (q % 32) * gf_ad (p % 32) (q % 32)
theorem gf_ad_c (a b : Nat) : gf_ad a b = gf_ad b a := Nat.add_comm _ _
theorem gf_dn_c (p q : Nat) : gf_dn p q = gf_dn q p := by
  unfold gf_dn
  rw [gf_ad_c (p / 32), gf_ad_c (p % 32)]
theorem gf_sq (a b : Nat) : (nI a - nI b) * (nI a - nI b) = nI (gf_ad a b * gf_ad a b) := by
  rcases Nat.le_total b a with h | h
  · rw [pk_sub h, pk_mul, show gf_ad a b = a - b by unfold gf_ad; omega]
  · have e : (nI a - nI b) * (nI a - nI b) = (nI b - nI a) * (nI b - nI a) := by grind
    rw [e, pk_sub h, pk_mul, show gf_ad a b = b - a by unfold gf_ad; omega]
theorem gf_dN (p q : Nat) : gf_d p q = nI (gf_dn p q) := by
  unfold gf_d gf_dn
  rw [gf_sq, gf_sq, nI_add]
theorem gf_dn_lt {p q : Nat} (hp : p < 1024) (hq : q < 1024) : gf_dn p q < 2048 := by
  have h1 : gf_ad (p / 32) (q / 32) ≤ 31 := by unfold gf_ad; omega
  have h2 : gf_ad (p % 32) (q % 32) ≤ 31 := by unfold gf_ad; omega
  have h3 := Nat.mul_le_mul h1 h1
  have h4 := Nat.mul_le_mul h2 h2
  unfold gf_dn
  omega
theorem xdn {post : Int32 → Prop} {x y : Int32} {p q : Nat} (ex : x = nI p) (ey : y = nI q) (hp : p < 1024) (hq : q < 1024) (h : post (nI (gf_dn p q))) : wpX_distance post x y :=
  xd ex ey hp hq (by rw [gf_dN]; exact h)
theorem ydn {post : Int32 → Prop} {l : List (Nat × Int32)} {A B C : Nat → Int32} {s : Int32} {i q : Nat} {a : Nat × Int32} {x y : Int32} (hY : gf_Y l A B C) (hl : l.length ≤ 40) (e : l[i]? = some a) (ex : x = nI (q / 32)) (ey : y = nI (q % 32)) (h : post (nI (gf_dn a.1 q))) : wpY_apart post (s, A, B, C) (nI i) x y :=
  yd hY hl e ex ey (by rw [gf_dN]; exact h)
/-! nearest: the least of distance * 1024 + place -/
def gf_k (c : Nat) (a : Nat × Int32) : Nat := gf_dn a.1 c * 1024 + a.1
def gf_mn (c m : Nat) (a : Nat × Int32) : Nat := if gf_k c a < m then gf_k c a else m
def gf_eb (m : Nat) : Int32 := if m = 2097152 then -2 else nI (m % 1024)
def gf_ex (m : Nat) : Int32 := if m = 2097152 then 2147483647 else nI (m / 1024)
def gf_ey (m : Nat) : Int32 := if m = 2097152 then 0 else nI (m / 1024)
theorem gf_mn_p {l m : List (Nat × Int32)} (h : l.Perm m) (c s : Nat) : l.foldl (gf_mn c) s = m.foldl (gf_mn c) s := by
  refine h.foldl_eq' ?_ s
  intro x _ y _ z
  unfold gf_mn
  generalize gf_k c x = p
  generalize gf_k c y = q
  (repeat' split) <;> omega
theorem gf_k_f {c : Nat} {a : Nat × Int32} (hc : c < 1024) (ha : a.1 < 1024) : gf_k c a < 2097152 ∧ gf_k c a % 1024 = a.1 ∧ gf_k c a / 1024 = gf_dn a.1 c := by
  have := gf_dn_lt ha hc
  unfold gf_k
  omega
theorem gf_eb_k {c : Nat} {a : Nat × Int32} (hc : c < 1024) (ha : a.1 < 1024) : gf_eb (gf_k c a) = nI a.1 ∧ gf_ex (gf_k c a) = nI (gf_dn a.1 c) ∧ gf_ey (gf_k c a) = nI (gf_dn a.1 c) := by
  have h := gf_k_f hc ha
  unfold gf_eb gf_ex gf_ey
  have hn : ¬ gf_k c a = 2097152 := by omega
  rw [if_neg hn, if_neg hn, if_neg hn, h.2.1, h.2.2]
  exact ⟨rfl, rfl, rfl⟩
theorem gf_mn_t {c m : Nat} {a : Nat × Int32} (h : gf_k c a < m) : gf_mn c m a = gf_k c a := if_pos h
theorem gf_mn_f {c m : Nat} {a : Nat × Int32} (h : ¬ gf_k c a < m) : gf_mn c m a = m := if_neg h
theorem xne {post : Int32 → Prop} {l : List (Nat × Int32)} {u : SX} {x y : Nat} (hG : gf_G l) (hA : gf_AX l u) (hx : x < 32) (hy : y < 32) (h : post (gf_eb (l.foldl (gf_mn (32 * x + y)) 2097152))) : wpX_nearest post u (nI x) (nI y) := by
  obtain ⟨m, P, V, rfl, hX, hS, hm⟩ := hA
  have hG' := gf_Gp hm.symm hG
  have hl := hG'.2.2
  rw [← gf_mn_p hm] at h
  unfold wpX_nearest
  dsimp only
  have hc : 32 * x + y < 1024 := by omega
  refine xg_t hx hy (br_f (by decide) (nm_r (gf_pl x y) ⟨m.length + 1, ?_⟩))
  revert h hc
  generalize 32 * x + y = c
  intro h hc
  refine gf_loop (fun n s i => wX_nearest_28 post (nI c) (nI m.length) P V n (gf_eb s) (gf_ex s) (nI i)) m (gf_mn c) (fun i s => s = 2097152 ∨ (s < 2097152 ∧ ∃ j b, j < i ∧ m[j]? = some b ∧ s % 1024 = b.1)) (fun s => post (gf_eb s)) ?_ ?_ ?_ 2097152 (Or.inl rfl) h
  · intro n s _ hp
    exact br_t (nI_le (Nat.le_refl _) (by omega)) hp
  · intro n s i a e hJ hw
    have hlt := gf_lt e
    have cc := gf_Xc hX hl e
    have ha := hG'.2.1 a (gf_mem e)
    have vi : vp_in (nI i) 40 := vp_in_nI (by omega) (by omega)
    have kf := gf_k_f hc ha
    have kb := gf_eb_k hc ha
    have hd := gf_dn_lt ha hc
    refine br_f (nI_ge (by omega) (by omega)) ⟨vi, xdn cc.1 rfl ha hc ?_⟩
    rcases hJ with hJ | ⟨hs, j, b, hj, ej, es⟩
    · subst hJ
      rw [gf_mn_t kf.1, kb.1, kb.2.1] at hw
      refine br_f (nI_ge (b := 2147483647) (by omega) (by decide)) ⟨vi, nm_r cc.1 (nm_r (nI_1 i) hw)⟩
    · have hba := gf_pw.mp hS j i b a hj ej e
      have ee : gf_ex s = nI (s / 1024) := if_neg (by omega)
      refine pk_le (s / 1024) (gf_dn a.1 c) (fun z => nm_r (nI_1 i) ?_) (fun z => ⟨vi, nm_r cc.1 (nm_r (nI_1 i) ?_)⟩) ee rfl
      · rw [gf_mn_f (by omega)] at hw
        exact hw
      · rw [gf_mn_t (by omega), kb.1, kb.2.1] at hw
        exact hw
  · intro s i a e hJ
    have ha := hG'.2.1 a (gf_mem e)
    have kf := gf_k_f hc ha
    by_cases z : gf_k c a < s
    · rw [gf_mn_t z]
      exact Or.inr ⟨kf.1, i, a, by omega, e, kf.2.1⟩
    · rw [gf_mn_f z]
      rcases hJ with hJ | ⟨hs, j, b, hj, ej, es⟩
      · exact Or.inl hJ
      · exact Or.inr ⟨hs, j, b, by omega, ej, es⟩
theorem yne {post : Int32 → Prop} {l : List (Nat × Int32)} {u : SY} {x y : Nat} (hG : gf_G l) (hA : gf_AY l u) (hx : x < 32) (hy : y < 32) (h : post (gf_eb (l.foldl (gf_mn (32 * x + y)) 2097152))) : wpY_nearest post u (nI x) (nI y) := by
  obtain ⟨m, A, B, C, rfl, hY, hm⟩ := hA
  have hG' := gf_Gp hm.symm hG
  have hl := hG'.2.2
  rw [← gf_mn_p hm] at h
  unfold wpY_nearest
  dsimp only
  have hc : 32 * x + y < 1024 := by omega
  refine yb_t hx (br_t rfl (yb_t hy (br_t rfl ⟨m.length + 1, ?_⟩)))
  refine gf_loop (fun n s i => wY_nearest_27 post (nI x) (nI y) (nI m.length) A B C n (gf_eb s) (gf_ey s) (nI i)) m (gf_mn (32 * x + y)) (fun _ s => s ≤ 2097152) (fun s => post (gf_eb s)) ?_ ?_ ?_ 2097152 (Nat.le_refl _) h
  · intro n s _ hp
    exact br_t (nI_le (Nat.le_refl _) (by omega)) hp
  · intro n s i a e hJ hw
    have hlt := gf_lt e
    have cc := gf_Yc hY hl e
    have ha := hG'.2.1 a (gf_mem e)
    have vi : vp_in (nI i) 40 := vp_in_nI (by omega) (by omega)
    have kf := gf_k_f hc ha
    have kb := gf_eb_k hc ha
    have hd := gf_dn_lt ha hc
    have ex : x = (32 * x + y) / 32 := by omega
    have ey : y = (32 * x + y) % 32 := by omega
    refine br_f (nI_ge (by omega) (by omega)) (br_f (nI_ge (b := 40) (by omega) (by decide)) (ydn (q := 32 * x + y) hY hl e (congrArg nI ex) (congrArg nI ey) ⟨vi, vi, nm_r (e' := nI a.1) ?_ ?_⟩))
    · rw [cc.1, cc.2.1, gf_pl]
      exact congrArg nI (by omega)
    · by_cases hJ' : s = 2097152
      · subst hJ'
        rw [gf_mn_t kf.1, kb.1, kb.2.2] at hw
        exact br_t (by decide) (nm_r (nI_1 i) hw)
      · have e1 : gf_eb s = nI (s % 1024) := if_neg hJ'
        have e2 : gf_ey s = nI (s / 1024) := if_neg hJ'
        have up : gf_k (32 * x + y) a < s → wY_nearest_27 post (nI x) (nI y) (nI m.length) A B C n (nI a.1) (nI (gf_dn a.1 (32 * x + y))) (nI (i + 1)) := by
          intro z
          rw [gf_mn_t z, kb.1, kb.2.2] at hw
          exact hw
        have st : ¬ gf_k (32 * x + y) a < s → wY_nearest_27 post (nI x) (nI y) (nI m.length) A B C n (gf_eb s) (gf_ey s) (nI (i + 1)) := by
          intro z
          rw [gf_mn_f z] at hw
          exact hw
        refine br_f (by rw [e1]; exact nI_pos (by omega)) (pk_lt (gf_dn a.1 (32 * x + y)) (s / 1024) (fun z => nm_r (nI_1 i) (up (by omega))) (fun z => pk_eq (gf_dn a.1 (32 * x + y)) (s / 1024) (fun z2 => pk_le (s % 1024) a.1 (fun z3 => nm_r (nI_1 i) (st (by omega))) (fun z3 => nm_r (nI_1 i) (up (by omega))) e1 rfl) (fun z2 => nm_r (nI_1 i) (st (by omega))) rfl e2) rfl e2)
  · intro s i a e hJ
    by_cases z : gf_k (32 * x + y) a < s
    · rw [gf_mn_t z]
      omega
    · rw [gf_mn_f z]
      exact hJ
theorem xne_f {post : Int32 → Prop} {u : SX} {x y : Int32} (hc : ¬ (gf_C x ∧ gf_C y)) (h : post (-1)) : wpX_nearest post u x y := by
  obtain ⟨f, P, V⟩ := u
  unfold wpX_nearest
  dsimp only
  exact xg_f hc (br_t rfl h)
theorem yne_f {post : Int32 → Prop} {u : SY} {x y : Int32} (hc : ¬ (gf_C x ∧ gf_C y)) (h : post (-1)) : wpY_nearest post u x y := by
  obtain ⟨f, A, B, C⟩ := u
  unfold wpY_nearest
  dsimp only
  by_cases hx : gf_C x
  · have hy := gf_n0 hc hx
    obtain ⟨a, ha, rfl⟩ := hx
    exact yb_t ha (br_t rfl (yb_f hy (br_f (by decide) h)))
  · exact yb_f hx (br_f (by decide) h)
