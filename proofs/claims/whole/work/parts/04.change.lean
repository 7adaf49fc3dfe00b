/-! move, clear, scatter -/
theorem gf_mv_G {l : List (Nat × Int32)} {p q : Nat} (hG : gf_G l) (hq : q < 1024) (hp : gf_h l p = true) (hn : gf_h l q = false) : gf_G (l.map (gf_mv p q)) := by
  obtain ⟨a, ha, rfl⟩ := gf_h_e hp
  have pm := gf_mvp q l a hG.1 ha
  have hl := pm.length_eq
  rw [List.length_map, List.length_cons] at hl
  have h40 := hG.2.2
  refine gf_Gp pm.symm (gf_Gc (gf_Gf hG _) hq ?_ (by unfold gf_rm at hl; omega))
  intro b hb
  exact gf_h_n hn b (List.mem_filter.mp hb).1
theorem xmv {post : Int32 → SX → Prop} {l : List (Nat × Int32)} {u : SX} {p q : Nat} (hG : gf_G l) (hA : gf_AX l u) (hp : p < 1024) (hq : q < 1024) (h2 : gf_h l p = false → post (-2) u) (h3 : gf_h l p = true → gf_h l q = true → post (-3) u) (h0 : gf_h l p = true → gf_h l q = false → ∀ u', gf_AX (l.map (gf_mv p q)) u' → post 0 u') : wpX_move post u (nI p) (nI q) := by
  obtain ⟨m, P, V, rfl, hX, hS, hm⟩ := hA
  have hG' := gf_Gp hm.symm hG
  have hl := hG'.2.2
  rw [← gf_h_p hm] at h2 h3 h0
  rw [← gf_h_p hm] at h3 h0
  unfold wpX_move
  dsimp only
  refine xp_t hp (br_f (by decide) (xp_t hq (br_f (by decide) (xs hX hG' hp ?_ ?_))))
  · intro i a e ea
    have hi := gf_lt e
    have hhp := gf_h_t (gf_mem e) ea
    refine br_t (nI_pos' (by omega)) (xs hX hG' hq ?_ ?_)
    · intro j b eb hb
      have hj := gf_lt eb
      exact br_f (nI_pos (by omega)) (h3 hhp (gf_h_t (gf_mem eb) hb))
    · intro hn
      have hhq := gf_h_f hn
      refine br_t (by decide) ⟨vp_in_nI (by omega) (by omega), nm_r (gf_Xc hX hl e).2 (xto hX hl e ?_)⟩
      intro P' V' hX'
      have er := gf_er m i a hG'.1 e
      rw [ea] at er
      have hGe : gf_G (m.eraseIdx i) := by rw [er]; exact gf_Gf hG' _
      have hSe : gf_S (m.eraseIdx i) := by rw [er]; exact List.Pairwise.filter _ hS
      have hne : gf_h (m.eraseIdx i) q = false := by
        rw [er]
        exact gf_h_f (fun b hb => hn b (List.mem_filter.mp hb).1)
      have hle := gf_el e
      have pn := gf_put_n a.2 hne (by omega)
      refine xst hGe ⟨m.eraseIdx i, P', V', rfl, hX', hSe, List.Perm.refl _⟩ hq ?_
      intro u' hu
      refine h0 hhp hhq u' ?_
      rw [pn.1] at hu
      obtain ⟨k, P2, V2, rfl, g1, g2, g3⟩ := hu
      refine ⟨k, P2, V2, rfl, g1, g2, g3.trans ?_⟩
      have pm := gf_mvp q m a hG'.1 (gf_mem e)
      rw [ea] at pm
      rw [er]
      exact pm.symm.trans (hm.map _)
  · intro hn
    exact br_f (by decide) (h2 (gf_h_f hn))
theorem ymv {post : Int32 → SY → Prop} {l : List (Nat × Int32)} {u : SY} {p q : Nat} (hG : gf_G l) (hA : gf_AY l u) (hp : p < 1024) (hq : q < 1024) (h2 : gf_h l p = false → post (-2) u) (h3 : gf_h l p = true → gf_h l q = true → post (-3) u) (h0 : gf_h l p = true → gf_h l q = false → ∀ u', gf_AY (l.map (gf_mv p q)) u' → post 0 u') : wpY_move post u (nI p) (nI q) := by
  obtain ⟨m, A, B, C, rfl, hY, hm⟩ := hA
  have hG' := gf_Gp hm.symm hG
  have hl := hG'.2.2
  have ep : 32 * (p / 32) + p % 32 = p := by omega
  have eq : 32 * (q / 32) + q % 32 = q := by omega
  rw [← gf_h_p hm] at h2 h3 h0
  rw [← gf_h_p hm] at h3 h0
  unfold wpY_move
  dsimp only
  rw [gf_rem hp, gf_rem hq, gf_div hp, gf_div hq]
  refine yp_t hp (br_t rfl (yp_t hq (br_t rfl ⟨by decide, by decide, yfq hY hG' (by omega) (by omega) ?_ ?_⟩)))
  · intro i a e ea
    rw [ep] at ea
    have hi := gf_lt e
    have hhp := gf_h_t (gf_mem e) ea
    refine br_t (nI_pos' (by omega)) ⟨by decide, by decide, yfq hY hG' (by omega) (by omega) ?_ ?_⟩
    · intro j b eb hb
      rw [eq] at hb
      have hj := gf_lt eb
      exact br_f (nI_pos (by omega)) (h3 hhp (gf_h_t (gf_mem eb) hb))
    · intro hn
      rw [eq] at hn
      have hhq := gf_h_f hn
      have vi : vp_in (nI i) 40 := vp_in_nI (by omega) (by omega)
      refine br_t (by decide) ⟨by decide, vi, nm_e ⟨by decide, vi, nm_e ?_⟩⟩
      rw [nI_clamp (by omega)]
      refine h0 hhp hhq _ ⟨m.map (gf_mv p q), _, _, _, by rw [List.length_map], ?_, hm.map _⟩
      intro j b eb
      rw [List.getElem?_map, Option.map_eq_some_iff] at eb
      obtain ⟨c, ec, rfl⟩ := eb
      have hc := hY j c ec
      by_cases z : j = i
      · subst z
        cases Option.some.inj (e.symm.trans ec)
        rw [pk_us, pk_us, show gf_mv p q a = (q, a.2) from if_pos ea]
        exact ⟨rfl, rfl, hc.2.2⟩
      · have hne : ¬ c.1 = p := fun y => z (gf_Du hG'.1 ec e (y.trans ea.symm))
        rw [pk_un z, pk_un z, show gf_mv p q c = c from if_neg hne]
        exact hc
  · intro hn
    rw [ep] at hn
    exact br_f (by decide) (h2 (gf_h_f hn))
theorem xmv_f {post : Int32 → SX → Prop} {u : SX} {x y : Int32} (hc : ¬ (gf_P x ∧ gf_P y)) (h : post (-1) u) : wpX_move post u x y := by
  obtain ⟨f, P, V⟩ := u
  unfold wpX_move
  dsimp only
  by_cases hx : gf_P x
  · have hy := gf_n0 hc hx
    obtain ⟨a, ha, rfl⟩ := hx
    exact xp_t ha (br_f (by decide) (xp_f hy (br_t rfl h)))
  · exact xp_f hx (br_t rfl h)
theorem ymv_f {post : Int32 → SY → Prop} {u : SY} {x y : Int32} (hc : ¬ (gf_P x ∧ gf_P y)) (h : post (-1) u) : wpY_move post u x y := by
  obtain ⟨f, A, B, C⟩ := u
  unfold wpY_move
  dsimp only
  by_cases hx : gf_P x
  · have hy := gf_n0 hc hx
    obtain ⟨a, ha, rfl⟩ := hx
    exact yp_t ha (br_t rfl (yp_f hy (br_f (by decide) h)))
  · exact yp_f hx (br_f (by decide) h)
/-- the points outside of a rectangle -/
def gf_out (lo hi : Nat) (a : Nat × Int32) : Bool := !gf_in lo hi a.1
def gf_ins (lo hi : Nat) (a : Nat × Int32) : Bool := gf_in lo hi a.1
theorem gf_out_t {lo hi : Nat} {a : Nat × Int32} (h : gf_in lo hi a.1 = false) : gf_out lo hi a = true := by unfold gf_out; rw [h]; rfl
theorem gf_out_f {lo hi : Nat} {a : Nat × Int32} (h : gf_in lo hi a.1 = true) : gf_out lo hi a = false := by unfold gf_out; rw [h]; rfl
theorem gf_len (lo hi : Nat) : ∀ l : List (Nat × Int32), l.length = l.countP (gf_ins lo hi) + (l.filter (gf_out lo hi)).length
  | [] => rfl
  | a :: t => by
    have ih := gf_len lo hi t
    by_cases h : gf_in lo hi a.1 = true
    · rw [List.countP_cons_of_pos (p := gf_ins lo hi) h, List.filter_cons_of_neg (by rw [gf_out_f h]; decide), List.length_cons]
      omega
    · rw [Bool.not_eq_true] at h
      rw [List.countP_cons_of_neg (by unfold gf_ins; rw [h]; decide), List.filter_cons_of_pos (gf_out_t h), List.length_cons, List.length_cons]
      omega
theorem gf_tk {l : List (Nat × Int32)} {i : Nat} {a : Nat × Int32} (e : l[i]? = some a) : l.take (i + 1) = l.take i ++ [a] := by
  rw [List.take_add_one, e]; rfl
theorem xcl {post : Int32 → SX → Prop} {l : List (Nat × Int32)} {u : SX} {lo hi : Nat} (hG : gf_G l) (hA : gf_AX l u) (hlo : lo < 1024) (hhi : hi < 1024) (r1 : lo / 32 ≤ hi / 32) (r2 : lo % 32 ≤ hi % 32) (h : ∀ u', gf_AX (l.filter (gf_out lo hi)) u' → post (nI (l.countP (gf_ins lo hi))) u') : wpX_clear post u (nI lo) (nI hi) := by
  obtain ⟨m, P, V, rfl, hX, hS, hm⟩ := hA
  have hG' := gf_Gp hm.symm hG
  have hl := hG'.2.2
  have key : ∀ d i F P' V', i + d = m.length → F = (m.take i).filter (gf_out lo hi) → gf_X F P' V' → (∀ t, i ≤ t → P' t = P t ∧ V' t = V t) → wX_clear_21 post (nI lo) (nI hi) (nI m.length) (nI m.length) (d + 1) (nI F.length) (nI i) P' V' := by
    intro d
    induction d with
    | zero =>
      intro i F P' V' hid hF hX' hK
      refine br_t (nI_le (by omega) (by omega)) ?_
      rw [List.take_of_length_le (by omega)] at hF
      have hc := gf_len lo hi m
      rw [← hF] at hc
      rw [pk_sub (by omega), show m.length - F.length = m.countP (gf_ins lo hi) by omega, hm.countP_eq]
      refine h _ ⟨F, P', V', rfl, hX', ?_, ?_⟩
      · rw [hF]; exact List.Pairwise.filter _ hS
      · rw [hF]; exact hm.filter _
    | succ d ih =>
      intro i F P' V' hid hF hX' hK
      have e : m[i]? = some m[i] := List.getElem?_eq_getElem (by omega)
      have hb := hG'.2.1 _ (gf_mem e)
      have tk := gf_tk e
      have hFl : F.length ≤ i := by
        rw [hF]
        exact Nat.le_trans (List.length_filter_le _ _) (List.length_take_le _ _)
      have vi : vp_in (nI i) 40 := vp_in_nI (by omega) (by omega)
      have vk : vp_in (nI F.length) 40 := vp_in_nI (by omega) (by omega)
      have hPi := hX i _ e
      refine br_f (nI_ge (by omega) (by omega)) ?_
      rw [nI_clamp (n := i) (by omega), nI_clamp (n := F.length) (by omega)]
      refine ⟨vi, xi (by rw [(hK i (Nat.le_refl i)).1]; exact hPi.1) hb hlo hhi (fun z => br_f (by decide) (nm_r (nI_1 i) (ih (i + 1) F P' V' (by omega) ?_ hX' (fun t ht => hK t (by omega))))) (fun z => br_t rfl ⟨vi, vk, nm_e ⟨vi, vk, nm_e (nm_r (nI_1 F.length) (nm_r (nI_1 i) ?_))⟩⟩)⟩
      · rw [tk, List.filter_append, ← hF, List.filter_cons_of_neg (by rw [gf_out_f z]; decide), List.filter_nil, List.append_nil]
      · have hh := ih (i + 1) (F ++ [m[i]]) (upd P' F.length (P' i)) (upd V' F.length (V' i)) (by omega) ?_ ?_ ?_
        · rw [List.length_append, List.length_singleton] at hh
          exact hh
        · rw [tk, List.filter_append, ← hF, List.filter_cons_of_pos (gf_out_t z), List.filter_nil]
        · intro j b eb
          rw [List.getElem?_append] at eb
          by_cases w : j < F.length
          · rw [if_pos w] at eb
            rw [pk_un (by omega), pk_un (by omega)]
            exact hX' j b eb
          · rw [if_neg w] at eb
            have := gf_lt eb
            rw [List.length_singleton] at this
            have ej : j = F.length := by omega
            subst ej
            rw [Nat.sub_self, List.getElem?_cons_zero] at eb
            cases eb
            rw [pk_us, pk_us, (hK i (Nat.le_refl i)).1, (hK i (Nat.le_refl i)).2]
            exact hPi
        · intro t ht
          rw [pk_un (by omega), pk_un (by omega)]
          exact hK t (by omega)
  unfold wpX_clear
  dsimp only
  exact xr_t hlo hhi r1 r2 (br_f (by decide) ⟨m.length + 1, key m.length 0 [] P V (by omega) rfl (fun i a e => by rw [List.getElem?_nil] at e; cases e) (fun t _ => ⟨rfl, rfl⟩)⟩)
theorem ycl_loop {post : Int32 → SY → Prop} {lo hi : Nat} (hlo : lo < 1024) (hhi : hi < 1024) : ∀ (k : Nat) (l : List (Nat × Int32)) (n : Nat) (A B C : Nat → Int32), k ≤ 40 → gf_G l → gf_Y l A B C → (∀ R A' B' C', R = (l.take k).filter (gf_out lo hi) ++ l.drop k → gf_Y R A' B' C' → post (nI (n + (l.take k).countP (gf_ins lo hi))) (nI R.length, A', B', C')) → wY_clear_17 post (nI lo) (nI hi) (k + 1) (nI n) (nI k + (-1)) (nI l.length) A B C := by
  intro k
  induction k with
  | zero =>
    intro l n A B C _ hG hY h
    exact br_t (by decide) (h l A B C rfl hY)
  | succ k ih =>
    intro l n A B C hk hG hY h
    have hl := hG.2.2
    rw [pk_m1]
    refine br_f (nI_pos (by omega)) (pk_le l.length k (fun z => nm_e (ih l n A B C (by omega) hG hY ?_)) (fun z => ?_))
    · rw [List.take_of_length_le (by omega), List.drop_eq_nil_of_le (by omega)] at h ⊢
      exact h
    · have e : l[k]? = some l[k] := List.getElem?_eq_getElem z
      have tk := gf_tk e
      refine yi hY hG e hlo hhi (fun y => br_f (by decide) (yto hY hl e ?_)) (fun y => br_t rfl (nm_e (ih l n A B C (by omega) hG hY ?_)))
      · intro A' B' C' hY'
        have er := gf_er l k _ hG.1 e
        have hGe : gf_G (l.eraseIdx k) := by rw [er]; exact gf_Gf hG _
        refine nm_r (nI_1 n) (nm_e (ih (l.eraseIdx k) (n + 1) A' B' C' (by omega) hGe hY' ?_))
        have ht : (l.take k).length = k := by rw [List.length_take]; omega
        have e1 : (l.eraseIdx k).take k = l.take k := by
          rw [List.eraseIdx_eq_take_drop_succ, List.take_left' ht]
        have e2 : (l.eraseIdx k).drop k = l.drop (k + 1) := by
          rw [List.eraseIdx_eq_take_drop_succ, List.drop_left' ht]
        rw [e1, e2]
        intro R A2 B2 C2 hR hY2
        have hh := h R A2 B2 C2 (by rw [hR, tk, List.filter_append, List.filter_cons_of_neg (by rw [gf_out_f y]; decide), List.filter_nil, List.append_nil]) hY2
        rw [tk, List.countP_append, List.countP_cons_of_pos (p := gf_ins lo hi) y, List.countP_nil] at hh
        rw [show n + 1 + (l.take k).countP (gf_ins lo hi) = n + ((l.take k).countP (gf_ins lo hi) + (0 + 1)) by omega]
        exact hh
      · intro R A2 B2 C2 hR hY2
        have hh := h R A2 B2 C2 (by rw [hR, tk, List.filter_append, List.filter_cons_of_pos (gf_out_t y), List.filter_nil, List.append_assoc, List.drop_eq_getElem_cons z]; rfl) hY2
        rw [tk, List.countP_append, List.countP_cons_of_neg (p := gf_ins lo hi) (by unfold gf_ins; rw [y]; decide), List.countP_nil] at hh
        exact hh
theorem ycl {post : Int32 → SY → Prop} {l : List (Nat × Int32)} {u : SY} {lo hi : Nat} (hG : gf_G l) (hA : gf_AY l u) (hlo : lo < 1024) (hhi : hi < 1024) (r1 : lo / 32 ≤ hi / 32) (r2 : lo % 32 ≤ hi % 32) (h : ∀ u', gf_AY (l.filter (gf_out lo hi)) u' → post (nI (l.countP (gf_ins lo hi))) u') : wpY_clear post u (nI lo) (nI hi) := by
  obtain ⟨m, A, B, C, rfl, hY, hm⟩ := hA
  have hG' := gf_Gp hm.symm hG
  have hl := hG'.2.2
  unfold wpY_clear
  dsimp only
  refine yr_t hlo hhi r1 r2 (br_t rfl ⟨41, ?_⟩)
  have hh := ycl_loop (post := post) hlo hhi 40 m 0 A B C (Nat.le_refl _) hG' hY ?_
  · exact hh
  · rw [List.take_of_length_le hl, List.drop_eq_nil_of_le hl, hm.countP_eq, Nat.zero_add]
    intro R A' B' C' hR hY'
    rw [List.append_nil] at hR
    exact h _ ⟨R, A', B', C', rfl, hY', by rw [hR]; exact hm.filter _⟩
theorem xcl_f {post : Int32 → SX → Prop} {u : SX} {x y : Int32} (hc : ¬ gf_R x y) (h : post (-1) u) : wpX_clear post u x y := by
  obtain ⟨f, P, V⟩ := u
  unfold wpX_clear
  dsimp only
  exact xr_f hc (br_t rfl h)
theorem ycl_f {post : Int32 → SY → Prop} {u : SY} {x y : Int32} (hc : ¬ gf_R x y) (h : post (-1) u) : wpY_clear post u x y := by
  obtain ⟨f, A, B, C⟩ := u
  unfold wpY_clear
  dsimp only
  exact yr_f hc (br_f (by decide) h)
/-! scatter -/
def gf_sc (g : Nat → Nat) (w : Nat → Int32) : Nat → Nat → List (Nat × Int32) → List (Nat × Int32)
  | 0, _, l => l
  | d + 1, k, l => gf_sc g w d (k + 1) (gf_put l (g k) (w k))
theorem gf_sc_G {g : Nat → Nat} {w : Nat → Int32} (hg : ∀ k, g k < 1024) : ∀ (d k : Nat) (l : List (Nat × Int32)), gf_G l → gf_G (gf_sc g w d k l)
  | 0, _, _, h => h
  | d + 1, k, l, h => gf_sc_G hg d (k + 1) _ (gf_put_G h (hg k) _)
def gf_gx (x1 x4 : Int32) (k : Nat) : Nat := ((x1 / 32) + (nI k * x4)).toBitVec.toNat % 2 ^ 5
def gf_gy (x1 x5 : Int32) (k : Nat) : Nat := ((x1 - x1 / 32 * 32) + (nI k * x5)).toBitVec.toNat % 2 ^ 5
def gf_g (x1 x4 x5 : Int32) (k : Nat) : Nat := 32 * gf_gx x1 x4 k + gf_gy x1 x5 k
theorem gf_gx_lt (x1 x4 : Int32) (k : Nat) : gf_gx x1 x4 k < 32 := Nat.mod_lt _ (by decide)
theorem gf_gy_lt (x1 x4 : Int32) (k : Nat) : gf_gy x1 x4 k < 32 := Nat.mod_lt _ (by decide)
theorem gf_g_lt (x1 x4 x5 : Int32) (k : Nat) : gf_g x1 x4 x5 k < 1024 := by
  have h1 := gf_gx_lt x1 x4 k
  have h2 := gf_gy_lt x1 x5 k
  unfold gf_g
  omega
theorem gf_gx_e (x1 x4 : Int32) (k : Nat) : ((x1 / 32) + (nI k * x4)) &&& 31 = nI (gf_gx x1 x4 k) := pk_and _ 5 (by decide)
theorem gf_gy_e (x1 x5 : Int32) (k : Nat) : ((x1 - x1 / 32 * 32) + (nI k * x5)) &&& 31 = nI (gf_gy x1 x5 k) := pk_and _ 5 (by decide)
theorem xsc_loop {post : Int32 → SX → Prop} {x1 x3 x4 x5 : Int32} {m : Nat} (hm : m ≤ 40) : ∀ (d k : Nat) (l : List (Nat × Int32)) (f : Int32) (P V : Nat → Int32), k + d = m → gf_G l → gf_AX l (f, P, V) → (∀ u', gf_AX (gf_sc (gf_g x1 x4 x5) (fun k => x3 + nI k) d k l) u' → post (nI (gf_sc (gf_g x1 x4 x5) (fun k => x3 + nI k) d k l).length) u') → wX_scatter_50 post x1 x3 x4 x5 (nI m) (d + 1) (nI k) f P V := by
  intro d
  induction d with
  | zero =>
    intro k l f P V hk hG hA h
    refine br_t (nI_le (by omega) (by omega)) ?_
    have hh := h _ hA
    obtain ⟨lx, P', V', e, hX, hS, hp⟩ := hA
    have ef : f = nI l.length := by rw [← hp.length_eq]; exact congrArg Prod.fst e
    rw [show gf_sc (gf_g x1 x4 x5) (fun k => x3 + nI k) 0 k l = l from rfl, ← ef] at hh
    exact hh
  | succ d ih =>
    intro k l f P V hk hG hA h
    refine br_f (nI_ge (by omega) (by omega)) ⟨by decide, ?_⟩
    unfold wpX_wrapped
    refine ⟨by decide, ?_⟩
    rw [gf_gx_e, gf_gy_e]
    dsimp only
    rw [gf_pl]
    refine xst hG hA (gf_g_lt x1 x4 x5 k) ?_
    intro u' hu
    obtain ⟨f', P', V'⟩ := u'
    exact nm_r (nI_1 k) (ih (k + 1) _ f' P' V' (by omega) (gf_put_G hG (gf_g_lt x1 x4 x5 k) _) hu h)
theorem ysc_loop {post : Int32 → SY → Prop} {x1 x3 x4 x5 : Int32} {m : Nat} (hm : m ≤ 40) : ∀ (d k : Nat) (l : List (Nat × Int32)) (f : Int32) (A B C : Nat → Int32), k + d = m → gf_G l → gf_AY l (f, A, B, C) → (∀ u', gf_AY (gf_sc (gf_g x1 x4 x5) (fun k => x3 + nI k) d k l) u' → post (nI (gf_sc (gf_g x1 x4 x5) (fun k => x3 + nI k) d k l).length) u') → wY_scatter_86 post x1 x3 (nI m) x4 x5 (d + 1) (nI k) f A B C := by
  intro d
  induction d with
  | zero =>
    intro k l f A B C hk hG hA h
    refine br_t (nI_le (by omega) (by omega)) ?_
    have hh := h _ hA
    obtain ⟨lx, A', B', C', e, hX, hp⟩ := hA
    have ef : f = nI l.length := by rw [← hp.length_eq]; exact congrArg Prod.fst e
    rw [show gf_sc (gf_g x1 x4 x5) (fun k => x3 + nI k) 0 k l = l from rfl, ← ef] at hh
    exact hh
  | succ d ih =>
    intro k l f A B C hk hG hA h
    refine br_f (nI_ge (by omega) (by omega)) ⟨by decide, nm_r (gf_gx_e x1 x4 k) ⟨by decide, nm_r (gf_gy_e x1 x5 k) ?_⟩⟩
    refine yput hG hA (gf_gx_lt x1 x4 k) (gf_gy_lt x1 x5 k) ?_
    intro u' hu
    obtain ⟨f', A', B', C'⟩ := u'
    exact nm_r (nI_1 k) (ih (k + 1) _ f' A' B' C' (by omega) (gf_put_G hG (gf_g_lt x1 x4 x5 k) _) hu h)
def gf_W (w : Int32) : Prop := ¬ w < 0 ∧ ¬ 62 < w / 4096 ∧ ¬ 62 < (w / 64) - (w / 64) / 64 * 64 ∧ ¬ w - w / 64 * 64 < 1 ∧ ¬ 40 < w - w / 64 * 64
theorem gf_W_m {w : Int32} (h : gf_W w) : ∃ m : Nat, m ≤ 40 ∧ w - w / 64 * 64 = nI m := by
  obtain ⟨_, _, _, h1, h2⟩ := h
  generalize w - w / 64 * 64 = s at h1 h2
  have h0 : ¬ s < 0 := fun z => h1 (Int32.lt_trans z (by decide))
  exact nI_of2 (M := 40) (n := 40) (by decide) h0 (Int32.not_lt.mp h2)
theorem xw_t {post : Int32 → Prop} {w : Int32} (h : gf_W w) (hp : post 1) : wpX_isWalk post w := by
  obtain ⟨h0, h1, h2, h3, h4⟩ := h
  exact br_t (Int32.not_lt.mp h0) ⟨by decide, nm_e ⟨by decide, br_f h1 ⟨by decide, by decide, br_f h2 (br_f h3 (br_f h4 hp))⟩⟩⟩
theorem xw_f {post : Int32 → Prop} {w : Int32} (h : ¬ gf_W w) (hp : post 0) : wpX_isWalk post w := by
  by_cases h0 : w < 0
  · exact br_f (Int32.not_le.mpr h0) hp
  · exact br_t (Int32.not_lt.mp h0) ⟨by decide, nm_e ⟨by decide, br_c (fun _ => hp) (fun h1 => ⟨by decide, by decide, br_c (fun _ => hp) (fun h2 => br_c (fun _ => hp) (fun h3 => br_c (fun _ => hp) (fun h4 => absurd ⟨h0, h1, h2, h3, h4⟩ h)))⟩)⟩⟩
theorem xsc {post : Int32 → SX → Prop} {l : List (Nat × Int32)} {u : SX} {p m : Nat} {w x3 : Int32} (hG : gf_G l) (hA : gf_AX l u) (hp : p < 1024) (hw : gf_W w) (hm : m ≤ 40) (em : w - w / 64 * 64 = nI m) (h : ∀ u', gf_AX (gf_sc (gf_g (nI p) ((w / 4096) - 31) (((w / 64) - (w / 64) / 64 * 64) - 31)) (fun k => x3 + nI k) m 0 l) u' → post (nI (gf_sc (gf_g (nI p) ((w / 4096) - 31) (((w / 64) - (w / 64) / 64 * 64) - 31)) (fun k => x3 + nI k) m 0 l).length) u') : wpX_scatter post u (nI p) w x3 := by
  obtain ⟨f, P, V⟩ := u
  unfold wpX_scatter
  dsimp only
  refine xp_t hp (br_f (by decide) (xw_t hw (br_f (by decide) ⟨by decide, nm_e ⟨by decide, by decide, nm_e ⟨by decide, nm_r em ⟨m + 1, ?_⟩⟩⟩⟩)))
  exact xsc_loop hm m 0 l f P V (by omega) hG hA h
theorem ysc {post : Int32 → SY → Prop} {l : List (Nat × Int32)} {u : SY} {p m : Nat} {w x3 : Int32} (hG : gf_G l) (hA : gf_AY l u) (hp : p < 1024) (hw : gf_W w) (hm : m ≤ 40) (em : w - w / 64 * 64 = nI m) (h : ∀ u', gf_AY (gf_sc (gf_g (nI p) ((w / 4096) - 31) (((w / 64) - (w / 64) / 64 * 64) - 31)) (fun k => x3 + nI k) m 0 l) u' → post (nI (gf_sc (gf_g (nI p) ((w / 4096) - 31) (((w / 64) - (w / 64) / 64 * 64) - 31)) (fun k => x3 + nI k) m 0 l).length) u') : wpY_scatter post u (nI p) w x3 := by
  obtain ⟨f, A, B, C⟩ := u
  obtain ⟨h0, h1, h2, h3, h4⟩ := hw
  unfold wpY_scatter
  dsimp only
  refine yp_t hp (br_t rfl (br_f h0 ⟨by decide, br_f h1 ⟨by decide, by decide, br_t (Int32.not_lt.mp h2) ⟨by decide, nm_e (br_f h3 (br_t (Int32.not_lt.mp h4) ⟨by decide, nm_e ⟨by decide, by decide, nm_e ⟨m + 1, ?_⟩⟩⟩))⟩⟩⟩))
  rw [em]
  exact ysc_loop hm m 0 l f A B C (by omega) hG hA h
theorem xsc_f1 {post : Int32 → SX → Prop} {u : SX} {x w x3 : Int32} (hc : ¬ gf_P x) (h : post (-1) u) : wpX_scatter post u x w x3 := by
  obtain ⟨f, P, V⟩ := u
  unfold wpX_scatter
  dsimp only
  exact xp_f hc (br_t rfl h)
theorem ysc_f1 {post : Int32 → SY → Prop} {u : SY} {x w x3 : Int32} (hc : ¬ gf_P x) (h : post (-1) u) : wpY_scatter post u x w x3 := by
  obtain ⟨f, A, B, C⟩ := u
  unfold wpY_scatter
  dsimp only
  exact yp_f hc (br_f (by decide) h)
theorem xsc_f2 {post : Int32 → SX → Prop} {u : SX} {p : Nat} {w x3 : Int32} (hp : p < 1024) (hc : ¬ gf_W w) (h : post (-2) u) : wpX_scatter post u (nI p) w x3 := by
  obtain ⟨f, P, V⟩ := u
  unfold wpX_scatter
  dsimp only
  exact xp_t hp (br_f (by decide) (xw_f hc (br_t rfl h)))
theorem ysc_f2 {post : Int32 → SY → Prop} {u : SY} {p : Nat} {w x3 : Int32} (hp : p < 1024) (hc : ¬ gf_W w) (h : post (-2) u) : wpY_scatter post u (nI p) w x3 := by
  obtain ⟨f, A, B, C⟩ := u
  unfold wpY_scatter
  dsimp only
  exact yp_t hp (br_t rfl (br_c (fun _ => h) (fun h0 => ⟨by decide, br_c (fun _ => h) (fun h1 => ⟨by decide, by decide, br_c (fun h2 => ⟨by decide, nm_e (br_c (fun _ => h) (fun h3 => br_c (fun h4 => absurd ⟨h0, h1, Int32.not_lt.mpr h2, h3, Int32.not_lt.mpr h4⟩ hc) (fun _ => h)))⟩) (fun _ => h)⟩)⟩)))
