/-! stores: putIn, takeOut, store, put, remove, move -/
theorem xpi {post : SX → Prop} {l : List (Nat × Int32)} {P V : Nat → Int32} {q : Nat} {v : Int32} (hX : gf_X l P V) (hG : gf_G l) (hS : gf_S l) (hq : q < 1024) (hn : ∀ a ∈ l, a.1 ≠ q) (hl : l.length < 40) (h : ∀ m P' V', gf_X m P' V' → gf_S m → m.Perm ((q, v) :: l) → post (nI m.length, P', V')) : wpX_putIn post (nI l.length, P, V) (nI q) v := by
  have fin : ∀ s P' V', s ≤ l.length → (∀ i, i < s → P' i = P i ∧ V' i = V i) → (∀ i, s ≤ i → i < l.length → P' (i + 1) = P i ∧ V' (i + 1) = V i) → (∀ i a, s ≤ i → l[i]? = some a → q < a.1) → (∀ i a, i < s → l[i]? = some a → a.1 < q) → wX_putIn_55 post (nI q) v (nI s) (nI l.length) P' V' := by
    intro s P' V' hs h1 h2 h3 h4
    have vs : vp_in (nI s) 40 := vp_in_nI (by omega) (by omega)
    refine ⟨vs, nm_e ⟨vs, nm_e (nm_r (nI_1 l.length) ?_)⟩⟩
    rw [nI_clamp (by omega)]
    have hp := List.perm_insertIdx (q, v) l hs
    have hh := h (l.insertIdx s (q, v)) (upd P' s (nI q)) (upd V' s v) ?_ ?_ hp
    · rw [hp.length_eq, List.length_cons] at hh
      exact hh
    · intro j a e
      rcases Nat.lt_trichotomy j s with z | z | z
      · rw [List.getElem?_insertIdx_of_lt z] at e
        rw [pk_un (by omega), pk_un (by omega), (h1 j z).1, (h1 j z).2]
        exact hX j a e
      · subst z
        rw [List.getElem?_insertIdx_self, if_pos hs] at e
        cases e
        rw [pk_us, pk_us]
        exact ⟨rfl, rfl⟩
      · rw [List.getElem?_insertIdx_of_gt z] at e
        have hj := gf_lt e
        obtain ⟨t, rfl⟩ : ∃ t, j = t + 1 := ⟨j - 1, by omega⟩
        rw [Nat.add_sub_cancel] at e hj
        rw [pk_un (by omega), pk_un (by omega), (h2 t (by omega) hj).1, (h2 t (by omega) hj).2]
        exact hX t a e
    · refine gf_pw.mpr ?_
      intro i j a b hij ea eb
      rcases Nat.lt_trichotomy i s with z | z | z
      · rw [List.getElem?_insertIdx_of_lt z] at ea
        rcases Nat.lt_trichotomy j s with y | y | y
        · rw [List.getElem?_insertIdx_of_lt y] at eb
          exact gf_pw.mp hS i j a b hij ea eb
        · subst y
          rw [List.getElem?_insertIdx_self, if_pos hs] at eb
          cases eb
          exact h4 i a z ea
        · rw [List.getElem?_insertIdx_of_gt y] at eb
          exact gf_pw.mp hS i (j - 1) a b (by omega) ea eb
      · subst z
        rw [List.getElem?_insertIdx_self, if_pos hs] at ea
        cases ea
        rw [List.getElem?_insertIdx_of_gt hij] at eb
        exact h3 (j - 1) b (by omega) eb
      · rw [List.getElem?_insertIdx_of_gt z] at ea
        rw [List.getElem?_insertIdx_of_gt (by omega)] at eb
        exact gf_pw.mp hS (i - 1) (j - 1) a b (by omega) ea eb
  have key : ∀ s P' V', s ≤ l.length → (∀ i, i < s → P' i = P i ∧ V' i = V i) → (∀ i, s ≤ i → i < l.length → P' (i + 1) = P i ∧ V' (i + 1) = V i) → (∀ i a, s ≤ i → l[i]? = some a → q < a.1) → wX_putIn_5 post (nI q) v (nI l.length) (s + 1) (nI s) P' V' := by
    intro s
    induction s with
    | zero =>
      intro P' V' hs h1 h2 h3
      exact br_t (nI_le (a := 0) (b := 0) (Nat.le_refl 0) (by decide)) (fin 0 P' V' hs h1 h2 h3 (fun i a hi => absurd hi (by omega)))
    | succ s ih =>
      intro P' V' hs h1 h2 h3
      have e : l[s]? = some l[s] := List.getElem?_eq_getElem (by omega)
      have hb := hG.2.1 _ (gf_mem e)
      have vs : vp_in (nI s) 40 := vp_in_nI (by omega) (by omega)
      have vs1 : vp_in (nI (s + 1)) 40 := vp_in_nI (by omega) (by omega)
      have ep : P' s = nI l[s].1 := by rw [(h1 s (by omega)).1]; exact (hX s _ e).1
      refine br_f (nI_nle (by omega) (by omega)) ?_
      rw [nI_pred s, nI_clamp (n := s) (by omega), nI_clamp (n := s + 1) (by omega)]
      refine ⟨vs, pk_le l[s].1 q (fun z => fin (s + 1) P' V' hs h1 h2 h3 ?_) (fun z => ⟨vs, vs1, nm_e ⟨vs, vs1, nm_e (nm_r (pk_m1 s) (ih _ _ (by omega) ?_ ?_ ?_))⟩⟩) ep rfl⟩
      · intro i a hi ei
        have hx : l[s].1 < q := by
          have := hn _ (gf_mem e)
          omega
        by_cases y : i = s
        · subst y
          cases Option.some.inj (e.symm.trans ei)
          exact hx
        · exact Nat.lt_trans (gf_pw.mp hS i s a _ (by omega) ei e) hx
      · intro i hi
        rw [pk_un (by omega), pk_un (by omega)]
        exact h1 i (by omega)
      · intro i hi hi2
        by_cases y : i = s
        · subst y
          rw [pk_us, pk_us]
          exact h1 i (by omega)
        · rw [pk_un (by omega), pk_un (by omega)]
          exact h2 i (by omega) hi2
      · intro i a hi ei
        by_cases y : i = s
        · subst y
          cases Option.some.inj (e.symm.trans ei)
          exact z
        · exact h3 i a (by omega) ei
  exact ⟨l.length + 1, key l.length P V (Nat.le_refl _) (fun i _ => ⟨rfl, rfl⟩) (fun i h1 h2 => absurd h1 (by omega)) (fun i a h1 e => absurd h1 (by have := gf_lt e; omega))⟩
theorem gf_el {l : List (Nat × Int32)} {i : Nat} {a : Nat × Int32} (e : l[i]? = some a) : (l.eraseIdx i).length = l.length - 1 := List.length_eraseIdx_of_lt (gf_lt e)
theorem xto {post : SX → Prop} {l : List (Nat × Int32)} {P V : Nat → Int32} {i : Nat} {a : Nat × Int32} (hX : gf_X l P V) (hl : l.length ≤ 40) (e : l[i]? = some a) (h : ∀ P' V', gf_X (l.eraseIdx i) P' V' → post (nI (l.eraseIdx i).length, P', V')) : wpX_takeOut post (nI l.length, P, V) (nI i) := by
  have hi := gf_lt e
  obtain ⟨k, hk⟩ : ∃ k, l.length = k + 1 := ⟨l.length - 1, by omega⟩
  have key : ∀ d j P' V', j + d = k → i ≤ j → (∀ t, t < i → P' t = P t ∧ V' t = V t) → (∀ t, i ≤ t → t < j → P' t = P (t + 1) ∧ V' t = V (t + 1)) → (∀ t, j ≤ t → P' t = P t ∧ V' t = V t) → wX_takeOut_12 post (nI k) (d + 1) (nI j) P' V' := by
    intro d
    induction d with
    | zero =>
      intro j P' V' hj hij h1 h2 h3
      refine br_t (nI_le (by omega) (by omega)) ?_
      have hh := h P' V' ?_
      · rw [gf_el e, hk, Nat.add_sub_cancel] at hh
        exact hh
      · intro t b et
        have ht := gf_lt et
        rw [gf_el e] at ht
        by_cases z : t < i
        · rw [List.getElem?_eraseIdx_of_lt z] at et
          rw [(h1 t z).1, (h1 t z).2]
          exact hX t b et
        · rw [List.getElem?_eraseIdx_of_ge (by omega)] at et
          rw [(h2 t (by omega) (by omega)).1, (h2 t (by omega) (by omega)).2]
          exact hX (t + 1) b et
    | succ d ih =>
      intro j P' V' hj hij h1 h2 h3
      have vj : vp_in (nI j) 40 := vp_in_nI (by omega) (by omega)
      have vj1 : vp_in (nI (j + 1)) 40 := vp_in_nI (by omega) (by omega)
      refine br_f (nI_ge (by omega) (by omega)) ?_
      rw [nI_1 j, nI_clamp (n := j) (by omega), nI_clamp (n := j + 1) (by omega)]
      refine ⟨vj1, vj, nm_e ⟨vj1, vj, nm_e (nm_e (ih (j + 1) _ _ (by omega) (by omega) ?_ ?_ ?_))⟩⟩
      · intro t ht
        rw [pk_un (by omega), pk_un (by omega)]
        exact h1 t ht
      · intro t ht ht2
        by_cases z : t = j
        · subst z
          rw [pk_us, pk_us]
          exact h3 (t + 1) (by omega)
        · rw [pk_un z, pk_un z]
          exact h2 t ht (by omega)
      · intro t ht
        rw [pk_un (by omega), pk_un (by omega)]
        exact h3 t (by omega)
  unfold wpX_takeOut
  dsimp only
  rw [hk]
  exact nm_r (nI_pred k) ⟨k - i + 1, key (k - i) i P V (by omega) (Nat.le_refl _) (fun t _ => ⟨rfl, rfl⟩) (fun t h1 h2 => absurd h1 (by omega)) (fun t _ => ⟨rfl, rfl⟩)⟩
theorem yto {post : SY → Prop} {l : List (Nat × Int32)} {A B C : Nat → Int32} {i : Nat} {a : Nat × Int32} (hY : gf_Y l A B C) (hl : l.length ≤ 40) (e : l[i]? = some a) (h : ∀ A' B' C', gf_Y (l.eraseIdx i) A' B' C' → post (nI (l.eraseIdx i).length, A', B', C')) : wpY_takeOut post (nI l.length, A, B, C) (nI i) := by
  have hi := gf_lt e
  obtain ⟨k, hk⟩ : ∃ k, l.length = k + 1 := ⟨l.length - 1, by omega⟩
  have key : ∀ d j A' B' C', j + d = k → i ≤ j → (∀ t, t < i → A' t = A t ∧ B' t = B t ∧ C' t = C t) → (∀ t, i ≤ t → t < j → A' t = A (t + 1) ∧ B' t = B (t + 1) ∧ C' t = C (t + 1)) → (∀ t, j ≤ t → A' t = A t ∧ B' t = B t ∧ C' t = C t) → wY_takeOut_2 post (nI (k + 1)) (d + 1) (nI j) A' B' C' := by
    intro d
    induction d with
    | zero =>
      intro j A' B' C' hj hij h1 h2 h3
      refine br_t (by rw [nI_pred]; exact nI_le (by omega) (by omega)) (nm_r (nI_pred k) ?_)
      have hh := h A' B' C' ?_
      · rw [gf_el e, hk, Nat.add_sub_cancel] at hh
        exact hh
      · intro t b et
        have ht := gf_lt et
        rw [gf_el e] at ht
        by_cases z : t < i
        · rw [List.getElem?_eraseIdx_of_lt z] at et
          rw [(h1 t z).1, (h1 t z).2.1, (h1 t z).2.2]
          exact hY t b et
        · rw [List.getElem?_eraseIdx_of_ge (by omega)] at et
          have g := h2 t (by omega) (by omega)
          rw [g.1, g.2.1, g.2.2]
          exact hY (t + 1) b et
    | succ d ih =>
      intro j A' B' C' hj hij h1 h2 h3
      have vj : vp_in (nI j) 40 := vp_in_nI (by omega) (by omega)
      have vj1 : vp_in (nI (j + 1)) 40 := vp_in_nI (by omega) (by omega)
      refine br_f (by rw [nI_pred]; exact nI_ge (by omega) (by omega)) (br_f (nI_ge (b := 39) (by omega) (by decide)) ?_)
      rw [nI_1 j, nI_clamp (n := j) (by omega), nI_clamp (n := j + 1) (by omega)]
      refine ⟨vj1, vj, nm_e ⟨vj1, vj, nm_e ⟨vj1, vj, nm_e (nm_e (ih (j + 1) _ _ _ (by omega) (by omega) ?_ ?_ ?_))⟩⟩⟩
      · intro t ht
        rw [pk_un (by omega), pk_un (by omega), pk_un (by omega)]
        exact h1 t ht
      · intro t ht ht2
        by_cases z : t = j
        · subst z
          rw [pk_us, pk_us, pk_us]
          exact h3 (t + 1) (by omega)
        · rw [pk_un z, pk_un z, pk_un z]
          exact h2 t ht (by omega)
      · intro t ht
        rw [pk_un (by omega), pk_un (by omega), pk_un (by omega)]
        exact h3 t (by omega)
  unfold wpY_takeOut
  dsimp only
  rw [hk]
  exact ⟨k - i + 1, key (k - i) i A B C (by omega) (Nat.le_refl _) (fun t _ => ⟨rfl, rfl, rfl⟩) (fun t h1 h2 => absurd h1 (by omega)) (fun t _ => ⟨rfl, rfl, rfl⟩)⟩
theorem gf_put_t {l : List (Nat × Int32)} {q : Nat} (v : Int32) (h : gf_h l q = true) : gf_put l q v = l.map (gf_rp q v) ∧ gf_pr l q = 0 := ⟨if_pos h, if_pos h⟩
theorem gf_put_n {l : List (Nat × Int32)} {q : Nat} (v : Int32) (h : gf_h l q = false) (hl : ¬ 40 ≤ l.length) : gf_put l q v = (q, v) :: l ∧ gf_pr l q = 1 := by
  have hh : ¬ gf_h l q = true := by rw [h]; decide
  exact ⟨(if_neg hh).trans (if_neg hl), (if_neg hh).trans (if_neg hl)⟩
theorem gf_put_o {l : List (Nat × Int32)} {q : Nat} (v : Int32) (h : gf_h l q = false) (hl : 40 ≤ l.length) : gf_put l q v = l ∧ gf_pr l q = -2 := by
  have hh : ¬ gf_h l q = true := by rw [h]; decide
  exact ⟨(if_neg hh).trans (if_pos hl), (if_neg hh).trans (if_pos hl)⟩
theorem xst {post : Int32 → SX → Prop} {l : List (Nat × Int32)} {u : SX} {q : Nat} {v : Int32} (hG : gf_G l) (hA : gf_AX l u) (hq : q < 1024) (h : ∀ u', gf_AX (gf_put l q v) u' → post (gf_pr l q) u') : wpX_store post u (nI q) v := by
  obtain ⟨m, P, V, rfl, hX, hS, hp⟩ := hA
  have hG' := gf_Gp hp.symm hG
  have hl := hG'.2.2
  have pp := gf_put_p hp q v
  rw [← gf_pr_p hp] at h
  unfold wpX_store
  dsimp only
  refine xs hX hG' hq ?_ ?_
  · intro i a e ea
    have hi := gf_lt e
    have g := gf_put_t v (gf_h_t (gf_mem e) ea)
    refine br_f (nI_pos (by omega)) ⟨vp_in_nI (by omega) (by omega), nm_e ?_⟩
    rw [nI_clamp (by omega)]
    rw [g.2] at h
    rw [g.1] at pp
    refine h _ ⟨m.map (gf_rp q v), P, upd V i v, by rw [List.length_map], ?_, ?_, pp⟩
    · intro j b eb
      rw [List.getElem?_map, Option.map_eq_some_iff] at eb
      obtain ⟨c, ec, rfl⟩ := eb
      rw [gf_rp1]
      refine ⟨(hX j c ec).1, ?_⟩
      by_cases z : j = i
      · subst z
        cases Option.some.inj (e.symm.trans ec)
        rw [pk_us, show gf_rp q v a = (q, v) from if_pos ea]
      · have hc : ¬ c.1 = q := fun y => z (gf_Du hG'.1 ec e (y.trans ea.symm))
        rw [pk_un z, show gf_rp q v c = c from if_neg hc]
        exact (hX j c ec).2
    · refine List.pairwise_map.mpr (List.Pairwise.imp ?_ hS)
      intro a b hab
      rw [gf_rp1, gf_rp1]
      exact hab
  · intro hn
    have hf := gf_h_f hn
    refine br_t (by decide) (pk_lt m.length 40 (fun z => ?_) (fun z => ?_))
    · have g := gf_put_n v hf (by omega)
      rw [g.2] at h
      rw [g.1] at pp
      exact xpi hX hG' hS hq hn z (fun k P' V' h1 h2 h3 => h _ ⟨k, P', V', rfl, h1, h2, h3.trans pp⟩)
    · have g := gf_put_o v hf z
      rw [g.2] at h
      rw [g.1] at pp
      exact h _ ⟨m, P, V, rfl, hX, hS, pp⟩
theorem xput {post : Int32 → SX → Prop} {l : List (Nat × Int32)} {u : SX} {x y : Nat} {v : Int32} (hG : gf_G l) (hA : gf_AX l u) (hx : x < 32) (hy : y < 32) (h : ∀ u', gf_AX (gf_put l (32 * x + y) v) u' → post (gf_pr l (32 * x + y)) u') : wpX_put post u (nI x) (nI y) v := by
  obtain ⟨f, P, V⟩ := u
  unfold wpX_put
  dsimp only
  refine xg_t hx hy (br_f (by decide) ?_)
  rw [gf_pl]
  exact xst hG hA (by omega) (fun u' hu => h u' hu)
theorem yput {post : Int32 → SY → Prop} {l : List (Nat × Int32)} {u : SY} {x y : Nat} {v : Int32} (hG : gf_G l) (hA : gf_AY l u) (hx : x < 32) (hy : y < 32) (h : ∀ u', gf_AY (gf_put l (32 * x + y) v) u' → post (gf_pr l (32 * x + y)) u') : wpY_put post u (nI x) (nI y) v := by
  obtain ⟨m, A, B, C, rfl, hY, hp⟩ := hA
  have hG' := gf_Gp hp.symm hG
  have hl := hG'.2.2
  have pp := gf_put_p hp (32 * x + y) v
  rw [← gf_pr_p hp] at h
  unfold wpY_put
  dsimp only
  refine yb_t hx (br_t rfl (yb_t hy (br_t rfl (yfq hY hG' hx hy ?_ ?_))))
  · intro i a e ea
    have hi := gf_lt e
    have g := gf_put_t v (gf_h_t (gf_mem e) ea)
    refine br_f (nI_pos (by omega)) ⟨vp_in_nI (by omega) (by omega), nm_e ?_⟩
    rw [nI_clamp (by omega)]
    rw [g.2] at h
    rw [g.1] at pp
    refine h _ ⟨m.map (gf_rp (32 * x + y) v), A, B, upd C i v, by rw [List.length_map], ?_, pp⟩
    intro j b eb
    rw [List.getElem?_map, Option.map_eq_some_iff] at eb
    obtain ⟨c, ec, rfl⟩ := eb
    rw [gf_rp1]
    refine ⟨(hY j c ec).1, (hY j c ec).2.1, ?_⟩
    by_cases z : j = i
    · subst z
      cases Option.some.inj (e.symm.trans ec)
      rw [pk_us, show gf_rp (32 * x + y) v a = (32 * x + y, v) from if_pos ea]
    · have hc : ¬ c.1 = 32 * x + y := fun y => z (gf_Du hG'.1 ec e (y.trans ea.symm))
      rw [pk_un z, show gf_rp (32 * x + y) v c = c from if_neg hc]
      exact (hY j c ec).2.2
  · intro hn
    have hf := gf_h_f hn
    refine br_t (by decide) (pk_lt m.length 40 (fun z => ?_) (fun z => ?_))
    · have g := gf_put_n v hf (by omega)
      have vl : vp_in (nI m.length) 40 := vp_in_nI (by omega) (by omega)
      rw [g.2] at h
      rw [g.1] at pp
      refine ⟨vl, nm_e ⟨vl, nm_e ⟨vl, nm_e (nm_r (nI_1 m.length) ?_)⟩⟩⟩
      rw [nI_clamp (by omega)]
      refine h _ ⟨m ++ [(32 * x + y, v)], _, _, _, by rw [List.length_append]; rfl, ?_, (List.perm_append_singleton _ _).trans pp⟩
      intro j b eb
      rw [List.getElem?_append] at eb
      by_cases w : j < m.length
      · rw [if_pos w] at eb
        rw [pk_un (by omega), pk_un (by omega), pk_un (by omega)]
        exact hY j b eb
      · rw [if_neg w] at eb
        have := gf_lt eb
        rw [List.length_singleton] at this
        have ej : j = m.length := by omega
        subst ej
        rw [Nat.sub_self, List.getElem?_cons_zero] at eb
        cases eb
        rw [pk_us, pk_us, pk_us]
        exact ⟨congrArg nI (by dsimp only; omega), congrArg nI (by dsimp only; omega), rfl⟩
    · have g := gf_put_o v hf z
      rw [g.2] at h
      rw [g.1] at pp
      exact h _ ⟨m, A, B, C, rfl, hY, pp⟩
theorem xput_f {post : Int32 → SX → Prop} {u : SX} {x y v : Int32} (hc : ¬ (gf_C x ∧ gf_C y)) (h : post (-1) u) : wpX_put post u x y v := by
  obtain ⟨f, P, V⟩ := u
  unfold wpX_put
  dsimp only
  exact xg_f hc (br_t rfl h)
theorem yput_f {post : Int32 → SY → Prop} {u : SY} {x y v : Int32} (hc : ¬ (gf_C x ∧ gf_C y)) (h : post (-1) u) : wpY_put post u x y v := by
  obtain ⟨f, A, B, C⟩ := u
  unfold wpY_put
  dsimp only
  by_cases hx : gf_C x
  · have hy := gf_n0 hc hx
    obtain ⟨a, ha, rfl⟩ := hx
    exact yb_t ha (br_t rfl (yb_f hy (br_f (by decide) h)))
  · exact yb_f hx (br_f (by decide) h)
theorem xrm {post : Int32 → SX → Prop} {l : List (Nat × Int32)} {u : SX} {x y : Nat} (hG : gf_G l) (hA : gf_AX l u) (hx : x < 32) (hy : y < 32) (h1 : gf_h l (32 * x + y) = true → ∀ u', gf_AX (gf_rm l (32 * x + y)) u' → post 0 u') (h0 : gf_h l (32 * x + y) = false → post (-2) u) : wpX_remove post u (nI x) (nI y) := by
  obtain ⟨m, P, V, rfl, hX, hS, hp⟩ := hA
  have hG' := gf_Gp hp.symm hG
  have hl := hG'.2.2
  rw [← gf_h_p hp] at h1 h0
  unfold wpX_remove
  dsimp only
  refine xg_t hx hy (br_f (by decide) ?_)
  rw [gf_pl]
  refine xs hX hG' (by omega) ?_ ?_
  · intro i a e ea
    have hi := gf_lt e
    refine br_t (nI_pos' (by omega)) (xto hX hl e ?_)
    intro P' V' hX'
    have er := gf_er m i a hG'.1 e
    rw [ea] at er
    refine h1 (gf_h_t (gf_mem e) ea) _ ⟨m.eraseIdx i, P', V', rfl, hX', ?_, ?_⟩
    · rw [er]
      exact List.Pairwise.filter _ hS
    · rw [er]
      exact hp.filter _
  · intro hn
    exact br_f (by decide) (h0 (gf_h_f hn))
theorem yrm {post : Int32 → SY → Prop} {l : List (Nat × Int32)} {u : SY} {x y : Nat} (hG : gf_G l) (hA : gf_AY l u) (hx : x < 32) (hy : y < 32) (h1 : gf_h l (32 * x + y) = true → ∀ u', gf_AY (gf_rm l (32 * x + y)) u' → post 0 u') (h0 : gf_h l (32 * x + y) = false → post (-2) u) : wpY_remove post u (nI x) (nI y) := by
  obtain ⟨m, A, B, C, rfl, hY, hp⟩ := hA
  have hG' := gf_Gp hp.symm hG
  have hl := hG'.2.2
  rw [← gf_h_p hp] at h1 h0
  unfold wpY_remove
  dsimp only
  refine yb_t hx (br_t rfl (yb_t hy (br_t rfl (yfq hY hG' hx hy ?_ ?_))))
  · intro i a e ea
    have hi := gf_lt e
    refine br_t (nI_pos' (by omega)) (yto hY hl e ?_)
    intro A' B' C' hY'
    have er := gf_er m i a hG'.1 e
    rw [ea] at er
    refine h1 (gf_h_t (gf_mem e) ea) _ ⟨m.eraseIdx i, A', B', C', rfl, hY', ?_⟩
    rw [er]
    exact hp.filter _
  · intro hn
    exact br_f (by decide) (h0 (gf_h_f hn))
theorem xrm_f {post : Int32 → SX → Prop} {u : SX} {x y : Int32} (hc : ¬ (gf_C x ∧ gf_C y)) (h : post (-1) u) : wpX_remove post u x y := by
  obtain ⟨f, P, V⟩ := u
  unfold wpX_remove
  dsimp only
  exact xg_f hc (br_t rfl h)
theorem yrm_f {post : Int32 → SY → Prop} {u : SY} {x y : Int32} (hc : ¬ (gf_C x ∧ gf_C y)) (h : post (-1) u) : wpY_remove post u x y := by
  obtain ⟨f, A, B, C⟩ := u
  unfold wpY_remove
  dsimp only
  by_cases hx : gf_C x
  · have hy := gf_n0 hc hx
    obtain ⟨a, ha, rfl⟩ := hx
    exact yb_t ha (br_t rfl (yb_f hy (br_f (by decide) h)))
  · exact yb_f hx (br_f (by decide) h)
