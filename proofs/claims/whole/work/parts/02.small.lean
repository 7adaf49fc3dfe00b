/-! the small methods of both sides -/
def gf_C (x : Int32) : Prop := ∃ a : Nat, a < 32 ∧ x = nI a
def gf_P (x : Int32) : Prop := ∃ a : Nat, a < 1024 ∧ x = nI a
def gf_R (x y : Int32) : Prop := ∃ lo hi : Nat, lo < 1024 ∧ hi < 1024 ∧ x = nI lo ∧ y = nI hi ∧ lo / 32 ≤ hi / 32 ∧ lo % 32 ≤ hi % 32
theorem xc_t {post : Int32 → Prop} {a : Nat} (h : a < 32) (hp : post 1) : wpX_isCoordinate post (nI a) :=
  br_f (nI_pos (by omega)) (br_f (nI_ge (b := 32) h (by decide)) hp)
theorem xc_f {post : Int32 → Prop} {x : Int32} (h : ¬ gf_C x) (hp : post 0) : wpX_isCoordinate post x := by
  by_cases h0 : x < 0
  · exact br_t h0 hp
  · obtain ⟨j, hj, rfl⟩ := nI_of h0
    have hn : ¬ j < 32 := fun z => h ⟨j, z, rfl⟩
    exact br_f h0 (br_t (nI_le (a := 32) (by omega) hj) hp)
theorem xg_t {post : Int32 → Prop} {a b : Nat} (ha : a < 32) (hb : b < 32) (hp : post 1) : wpX_isGoodPlace post (nI a) (nI b) := by
  unfold wpX_isGoodPlace
  exact xc_t ha (br_f (by decide) (xc_t hb (br_f (by decide) hp)))
theorem xg_f {post : Int32 → Prop} {x y : Int32} (h : ¬ (gf_C x ∧ gf_C y)) (hp : post 0) : wpX_isGoodPlace post x y := by
  unfold wpX_isGoodPlace
  by_cases hx : gf_C x
  · have hy : ¬ gf_C y := gf_n0 h hx
    obtain ⟨a, ha, rfl⟩ := hx
    exact xc_t ha (br_f (by decide) (xc_f hy (br_t rfl hp)))
  · exact xc_f hx (br_t rfl hp)
theorem xp_t {post : Int32 → Prop} {a : Nat} (h : a < 1024) (hp : post 1) : wpX_isPlaceNumber post (nI a) :=
  br_f (nI_pos (by omega)) (br_f (nI_ge (b := 1024) h (by decide)) hp)
theorem xp_f {post : Int32 → Prop} {x : Int32} (h : ¬ gf_P x) (hp : post 0) : wpX_isPlaceNumber post x := by
  by_cases h0 : x < 0
  · exact br_t h0 hp
  · obtain ⟨j, hj, rfl⟩ := nI_of h0
    have hn : ¬ j < 1024 := fun z => h ⟨j, z, rfl⟩
    exact br_f h0 (br_t (nI_le (a := 1024) (by omega) hj) hp)
/-- at or beyond, inside -/
def gf_ge (p q : Nat) : Bool := decide (q / 32 ≤ p / 32) && decide (q % 32 ≤ p % 32)
def gf_in (lo hi p : Nat) : Bool := gf_ge p lo && gf_ge hi p
theorem gf_ge_t {p q : Nat} (h : q / 32 ≤ p / 32) (h2 : q % 32 ≤ p % 32) : gf_ge p q = true := by
  unfold gf_ge; rw [decide_eq_true h, decide_eq_true h2]; rfl
theorem gf_ge_f1 {p q : Nat} (h : ¬ q / 32 ≤ p / 32) : gf_ge p q = false := by
  unfold gf_ge; rw [decide_eq_false h]; rfl
theorem gf_ge_f2 {p q : Nat} (h : ¬ q % 32 ≤ p % 32) : gf_ge p q = false := by
  unfold gf_ge; rw [decide_eq_false h, Bool.and_false]
theorem xa {post : Int32 → Prop} {x y : Int32} {p q : Nat} (ex : x = nI p) (ey : y = nI q) (hp : p < 1024) (hq : q < 1024) (h1 : gf_ge p q = true → post 1) (h0 : gf_ge p q = false → post 0) : wpX_isAtOrBeyond post x y := by
  subst ex ey
  unfold wpX_isAtOrBeyond
  rw [gf_rem hp, gf_rem hq, gf_div hp, gf_div hq]
  exact ⟨by decide, by decide, pk_lt (p / 32) (q / 32) (fun h => h0 (gf_ge_f1 (by omega))) (fun h => ⟨by decide, by decide, pk_lt (p % 32) (q % 32) (fun h' => h0 (gf_ge_f2 (by omega))) (fun h' => h1 (gf_ge_t h h'))⟩)⟩
theorem xi {post : Int32 → Prop} {x : Int32} {p lo hi : Nat} (ex : x = nI p) (hp : p < 1024) (hlo : lo < 1024) (hhi : hi < 1024) (h1 : gf_in lo hi p = true → post 1) (h0 : gf_in lo hi p = false → post 0) : wpX_isInside post x (nI lo) (nI hi) := by
  unfold wpX_isInside
  refine xa ex rfl hp hlo (fun h => br_f (by decide) (xa rfl ex hhi hp (fun h' => br_f (by decide) (h1 ?_)) (fun h' => br_t rfl (h0 ?_)))) (fun h => br_t rfl (h0 ?_))
  · unfold gf_in; rw [h, h']; rfl
  · unfold gf_in; rw [h, h']; rfl
  · unfold gf_in; rw [h]; rfl
theorem xr_t {post : Int32 → Prop} {lo hi : Nat} (hlo : lo < 1024) (hhi : hi < 1024) (h1 : lo / 32 ≤ hi / 32) (h2 : lo % 32 ≤ hi % 32) (hp : post 1) : wpX_isGoodRectangle post (nI lo) (nI hi) := by
  unfold wpX_isGoodRectangle
  refine xp_t hlo (br_f (by decide) (xp_t hhi (br_f (by decide) (xa rfl rfl hhi hlo (fun h => br_f (by decide) hp) (fun h => ?_)))))
  rw [gf_ge_t h1 h2] at h
  cases h
theorem xr_f {post : Int32 → Prop} {x y : Int32} (h : ¬ gf_R x y) (hp : post 0) : wpX_isGoodRectangle post x y := by
  unfold wpX_isGoodRectangle
  by_cases hx : gf_P x
  · obtain ⟨lo, hlo, rfl⟩ := hx
    refine xp_t hlo (br_f (by decide) ?_)
    by_cases hy : gf_P y
    · obtain ⟨hi, hhi, rfl⟩ := hy
      refine xp_t hhi (br_f (by decide) (xa rfl rfl hhi hlo (fun z => ?_) (fun z => br_t rfl hp)))
      unfold gf_ge at z
      rw [Bool.and_eq_true, decide_eq_true_eq, decide_eq_true_eq] at z
      exact absurd ⟨lo, hi, hlo, hhi, rfl, rfl, z.1, z.2⟩ h
    · exact xp_f hy (br_t rfl hp)
  · exact xp_f hx (br_t rfl hp)
theorem yb_t {post : Int32 → Prop} {s : Int32} {A B C : Nat → Int32} {a : Nat} (h : a < 32) (hp : post 0) : wpY_bad post (s, A, B, C) (nI a) :=
  br_f (nI_pos (by omega)) (br_t (nI_le (b := 31) (by omega) (by decide)) hp)
theorem yb_f {post : Int32 → Prop} {s : Int32} {A B C : Nat → Int32} {x : Int32} (h : ¬ gf_C x) (hp : post 1) : wpY_bad post (s, A, B, C) x := by
  by_cases h0 : x < 0
  · exact br_t h0 hp
  · obtain ⟨j, hj, rfl⟩ := nI_of h0
    have hn : ¬ j < 32 := fun z => h ⟨j, z, rfl⟩
    exact br_f h0 (br_f (nI_ge (a := 31) (by omega) hj) hp)
theorem yp_t {post : Int32 → Prop} {s : Int32} {A B C : Nat → Int32} {a : Nat} (h : a < 1024) (hp : post 0) : wpY_badPlace post (s, A, B, C) (nI a) :=
  br_f (nI_pos (by omega)) (br_t (nI_le (b := 1023) (by omega) (by decide)) hp)
theorem yp_f {post : Int32 → Prop} {s : Int32} {A B C : Nat → Int32} {x : Int32} (h : ¬ gf_P x) (hp : post 1) : wpY_badPlace post (s, A, B, C) x := by
  by_cases h0 : x < 0
  · exact br_t h0 hp
  · obtain ⟨j, hj, rfl⟩ := nI_of h0
    have hn : ¬ j < 1024 := fun z => h ⟨j, z, rfl⟩
    exact br_f h0 (br_f (nI_ge (a := 1023) (by omega) hj) hp)
theorem yr_t {post : Int32 → Prop} {s : Int32} {A B C : Nat → Int32} {lo hi : Nat} (hlo : lo < 1024) (hhi : hi < 1024) (h1 : lo / 32 ≤ hi / 32) (h2 : lo % 32 ≤ hi % 32) (hp : post 0) : wpY_badRectangle post (s, A, B, C) (nI lo) (nI hi) := by
  unfold wpY_badRectangle
  dsimp only
  rw [gf_rem hlo, gf_rem hhi, gf_div hlo, gf_div hhi]
  exact yp_t hlo (br_t rfl (yp_t hhi (br_t rfl ⟨by decide, by decide, br_f (nI_nlt h1 (by omega)) ⟨by decide, by decide, br_t (nI_le h2 (by omega)) hp⟩⟩)))
theorem yr_f {post : Int32 → Prop} {s : Int32} {A B C : Nat → Int32} {x y : Int32} (h : ¬ gf_R x y) (hp : post 1) : wpY_badRectangle post (s, A, B, C) x y := by
  unfold wpY_badRectangle
  dsimp only
  by_cases hx : gf_P x
  · obtain ⟨lo, hlo, rfl⟩ := hx
    refine yp_t hlo (br_t rfl ?_)
    by_cases hy : gf_P y
    · obtain ⟨hi, hhi, rfl⟩ := hy
      refine yp_t hhi (br_t rfl ?_)
      rw [gf_rem hlo, gf_rem hhi, gf_div hlo, gf_div hhi]
      refine ⟨by decide, by decide, pk_lt (hi / 32) (lo / 32) (fun _ => hp) (fun z => ⟨by decide, by decide, pk_le (lo % 32) (hi % 32) (fun z' => ?_) (fun _ => hp)⟩)⟩
      exact absurd ⟨lo, hi, hlo, hhi, rfl, rfl, z, z'⟩ h
    · exact yp_f hy (br_f (by decide) hp)
  · exact yp_f hx (br_f (by decide) hp)
/-! the states against a list of points -/
def gf_X (l : List (Nat × Int32)) (P V : Nat → Int32) : Prop := ∀ (i : Nat) (a : Nat × Int32), l[i]? = some a → P i = nI a.1 ∧ V i = a.2
def gf_Y (l : List (Nat × Int32)) (A B C : Nat → Int32) : Prop := ∀ (i : Nat) (a : Nat × Int32), l[i]? = some a → A i = nI (a.1 / 32) ∧ B i = nI (a.1 % 32) ∧ C i = a.2
def gf_AX (l : List (Nat × Int32)) (u : SX) : Prop := ∃ (m : List (Nat × Int32)) (P V : Nat → Int32), u = (nI m.length, P, V) ∧ gf_X m P V ∧ gf_S m ∧ m.Perm l
def gf_AY (l : List (Nat × Int32)) (v : SY) : Prop := ∃ (m : List (Nat × Int32)) (A B C : Nat → Int32), v = (nI m.length, A, B, C) ∧ gf_Y m A B C ∧ m.Perm l
theorem gf_Xc {l : List (Nat × Int32)} {P V : Nat → Int32} (hX : gf_X l P V) (hl : l.length ≤ 40) {i : Nat} {a : Nat × Int32} (e : l[i]? = some a) : P (nI i).toNatClampNeg = nI a.1 ∧ V (nI i).toNatClampNeg = a.2 := by
  have := gf_lt e
  rw [nI_clamp (by omega)]
  exact hX i a e
theorem gf_Yc {l : List (Nat × Int32)} {A B C : Nat → Int32} (hY : gf_Y l A B C) (hl : l.length ≤ 40) {i : Nat} {a : Nat × Int32} (e : l[i]? = some a) : A (nI i).toNatClampNeg = nI (a.1 / 32) ∧ B (nI i).toNatClampNeg = nI (a.1 % 32) ∧ C (nI i).toNatClampNeg = a.2 := by
  have := gf_lt e
  rw [nI_clamp (by omega)]
  exact hY i a e
theorem xs {post : Int32 → Prop} {l : List (Nat × Int32)} {P V : Nat → Int32} {q : Nat} (hX : gf_X l P V) (hG : gf_G l) (hq : q < 1024) (hf : ∀ i a, l[i]? = some a → a.1 = q → post (nI i)) (hn : (∀ a ∈ l, a.1 ≠ q) → post (-1)) : wpX_slotOf post (nI l.length, P, V) (nI q) := by
  have hl := hG.2.2
  have key : ∀ d i, i + d = l.length → (∀ j a, j < i → l[j]? = some a → a.1 ≠ q) → wX_slotOf_2 post (nI q) (nI l.length) P V (d + 1) (nI i) := by
    intro d
    induction d with
    | zero =>
      intro i hi hj
      refine br_t (nI_le (by omega) (by omega)) (hn ?_)
      intro a ha
      obtain ⟨j, e⟩ := gf_idx ha
      have := gf_lt e
      exact hj j a (by omega) e
    | succ d ih =>
      intro i hi hj
      have e : l[i]? = some l[i] := List.getElem?_eq_getElem (by omega)
      have hb := hG.2.1 _ (gf_mem e)
      refine br_f (nI_ge (by omega) (by omega)) ⟨vp_in_nI (by omega) (by omega), pk_eq (l[i]).1 q (fun h => hf i _ e h) (fun h => nm_r (nI_1 i) (ih (i + 1) (by omega) ?_)) (gf_Xc hX hl e).1 rfl⟩
      intro j a hj' ej
      by_cases z : j = i
      · subst z
        cases Option.some.inj (e.symm.trans ej)
        exact h
      · exact hj j a (by omega) ej
  exact ⟨l.length + 1, key l.length 0 (by omega) (fun j a hj => absurd hj (by omega))⟩
theorem yf {post : Int32 → Prop} {l : List (Nat × Int32)} {A B C : Nat → Int32} {x y : Int32} (hY : gf_Y l A B C) (hG : gf_G l) (hf : ∀ i a, l[i]? = some a → nI (a.1 / 32) = x → nI (a.1 % 32) = y → post (nI i)) (hn : (∀ a ∈ l, ¬ (nI (a.1 / 32) = x ∧ nI (a.1 % 32) = y)) → post (-1)) : wpY_find post (nI l.length, A, B, C) x y := by
  have hl := hG.2.2
  have key : ∀ d i, i + d = l.length → (∀ j a, j < i → l[j]? = some a → ¬ (nI (a.1 / 32) = x ∧ nI (a.1 % 32) = y)) → wY_find_2 post x y (nI l.length) A B C (d + 1) (nI i) := by
    intro d
    induction d with
    | zero =>
      intro i hi hj
      refine br_t (nI_le (by omega) (by omega)) (hn ?_)
      intro a ha
      obtain ⟨j, e⟩ := gf_idx ha
      have := gf_lt e
      exact hj j a (by omega) e
    | succ d ih =>
      intro i hi hj
      have e : l[i]? = some l[i] := List.getElem?_eq_getElem (by omega)
      have c := gf_Yc hY hl e
      have vi : vp_in (nI i) 40 := vp_in_nI (by omega) (by omega)
      have nx : ¬ (nI (l[i].1 / 32) = x ∧ nI (l[i].1 % 32) = y) → wY_find_2 post x y (nI l.length) A B C (d + 1) (nI (i + 1)) := by
        intro h
        refine ih (i + 1) (by omega) ?_
        intro j a hj' ej
        by_cases z : j = i
        · subst z
          cases Option.some.inj (e.symm.trans ej)
          exact h
        · exact hj j a (by omega) ej
      refine br_f (nI_ge (by omega) (by omega)) (br_f (nI_ge (b := 40) (by omega) (by decide)) ⟨vi, br_c (fun h1 => ⟨vi, br_c (fun h2 => ?_) (fun h2 => nm_r (nI_1 i) (nx ?_))⟩) (fun h1 => nm_r (nI_1 i) (nx ?_))⟩)
      · rw [c.1] at h1
        rw [c.2.1] at h2
        exact hf i _ e h1 h2
      · rw [c.2.1] at h2
        exact fun z => h2 z.2
      · rw [c.1] at h1
        exact fun z => h1 z.1
  exact ⟨l.length + 1, key l.length 0 (by omega) (fun j a hj => absurd hj (by omega))⟩
theorem gf_xy {a x y : Nat} (h : a < 1024) (hx : x < 32) (hy : y < 32) : (nI (a / 32) = nI x ∧ nI (a % 32) = nI y) ↔ a = 32 * x + y := by
  rw [nI_eq (by omega) (by omega), nI_eq (by omega) (by omega)]
  omega
theorem yfq {post : Int32 → Prop} {l : List (Nat × Int32)} {A B C : Nat → Int32} {x y : Nat} (hY : gf_Y l A B C) (hG : gf_G l) (hx : x < 32) (hy : y < 32) (hf : ∀ i a, l[i]? = some a → a.1 = 32 * x + y → post (nI i)) (hn : (∀ a ∈ l, a.1 ≠ 32 * x + y) → post (-1)) : wpY_find post (nI l.length, A, B, C) (nI x) (nI y) :=
  yf hY hG (fun i a e h1 h2 => hf i a e ((gf_xy (hG.2.1 a (gf_mem e)) hx hy).mp ⟨h1, h2⟩)) (fun h => hn (fun a ha z => h a ha ((gf_xy (hG.2.1 a ha) hx hy).mpr z)))
theorem yi {post : Int32 → Prop} {l : List (Nat × Int32)} {A B C : Nat → Int32} {s : Int32} {i lo hi : Nat} {a : Nat × Int32} (hY : gf_Y l A B C) (hG : gf_G l) (e : l[i]? = some a) (hlo : lo < 1024) (hhi : hi < 1024) (h1 : gf_in lo hi a.1 = true → post 1) (h0 : gf_in lo hi a.1 = false → post 0) : wpY_inside post (s, A, B, C) (nI i) (nI lo) (nI hi) := by
  have hl := hG.2.2
  have hb := hG.2.1 a (gf_mem e)
  have hi' := gf_lt e
  have c := gf_Yc hY hl e
  have vi : vp_in (nI i) 40 := vp_in_nI (by omega) (by omega)
  unfold wpY_inside
  dsimp only
  rw [gf_rem hlo, gf_rem hhi, gf_div hlo, gf_div hhi, c.1, c.2.1]
  refine ⟨vi, by decide, pk_lt _ _ (fun z => h0 ?_) (fun z1 => ⟨vi, by decide, pk_lt _ _ (fun z => h0 ?_) (fun z2 => ⟨vi, by decide, pk_lt _ _ (fun z => h0 ?_) (fun z3 => ⟨vi, by decide, pk_lt _ _ (fun z => h0 ?_) (fun z4 => h1 ?_) rfl rfl (by omega) (by omega)⟩) rfl rfl (by omega) (by omega)⟩) rfl rfl (by omega) (by omega)⟩) rfl rfl (by omega) (by omega)⟩
  · unfold gf_in; rw [gf_ge_f1 (by omega)]; rfl
  · unfold gf_in; rw [gf_ge_f1 (p := hi) (by omega), Bool.and_false]
  · unfold gf_in; rw [gf_ge_f2 (by omega)]; rfl
  · unfold gf_in; rw [gf_ge_f2 (p := hi) (by omega), Bool.and_false]
  · unfold gf_in; rw [gf_ge_t (by omega) (by omega), gf_ge_t (by omega) (by omega)]; rfl
