/-! frontier -/
def gf_q (p : Nat) (b : Nat × Int32) : Bool := decide (b.1 ≠ p) && gf_ge b.1 p
def gf_dm (l : List (Nat × Int32)) (p : Nat) : Bool := l.any (gf_q p)
def gf_fr (l : List (Nat × Int32)) (a : Nat × Int32) : Bool := !gf_dm l a.1
theorem gf_fr_p {l m : List (Nat × Int32)} (h : l.Perm m) : l.countP (gf_fr l) = m.countP (gf_fr m) := by
  have e : gf_fr l = gf_fr m := by
    funext a
    unfold gf_fr gf_dm
    rw [h.any_eq]
  rw [e, h.countP_eq]
theorem xdm {post : Int32 → Prop} {l : List (Nat × Int32)} {P V : Nat → Int32} {x : Int32} {p : Nat} (hX : gf_X l P V) (hG : gf_G l) (ex : x = nI p) (hp : p < 1024) (h1 : gf_dm l p = true → post 1) (h0 : gf_dm l p = false → post 0) : wpX_isDominated post (nI l.length, P, V) x := by
  subst ex
  have hl := hG.2.2
  have key : ∀ d i, i + d = l.length → (∀ j b, j < i → l[j]? = some b → ¬ gf_q p b = true) → wX_isDominated_2 post (nI p) (nI l.length) P V (d + 1) (nI i) := by
    intro d
    induction d with
    | zero =>
      intro i hi hj
      refine br_t (nI_le (by omega) (by omega)) (h0 (List.any_eq_false.mpr ?_))
      intro a ha
      obtain ⟨j, e⟩ := gf_idx ha
      have := gf_lt e
      exact hj j a (by omega) e
    | succ d ih =>
      intro i hi hj
      have e : l[i]? = some l[i] := List.getElem?_eq_getElem (by omega)
      have hb := hG.2.1 _ (gf_mem e)
      have cc := gf_Xc hX hl e
      have vi : vp_in (nI i) 40 := vp_in_nI (by omega) (by omega)
      have nx : ¬ gf_q p l[i] = true → wX_isDominated_2 post (nI p) (nI l.length) P V (d + 1) (nI (i + 1)) := by
        intro h
        refine ih (i + 1) (by omega) ?_
        intro j a hj' ej
        by_cases z : j = i
        · subst z
          cases Option.some.inj (e.symm.trans ej)
          exact h
        · exact hj j a (by omega) ej
      refine br_f (nI_ge (by omega) (by omega)) ⟨vi, pk_eq (l[i]).1 p (fun z => nm_r (nI_1 i) (nx ?_)) (fun z => ⟨vi, xa cc.1 rfl hb hp (fun y => br_f (by decide) (h1 ?_)) (fun y => br_t rfl (nm_r (nI_1 i) (nx ?_)))⟩) cc.1 rfl⟩
      · unfold gf_q
        rw [decide_eq_false (fun w => w z), Bool.false_and]
        decide
      · refine List.any_eq_true.mpr ⟨_, gf_mem e, ?_⟩
        unfold gf_q
        rw [decide_eq_true z, y]
        rfl
      · unfold gf_q
        rw [y, Bool.and_false]
        decide
  exact ⟨l.length + 1, key l.length 0 (by omega) (fun j a hj => absurd hj (by omega))⟩
theorem xfr {post : Int32 → Prop} {l : List (Nat × Int32)} {u : SX} (hG : gf_G l) (hA : gf_AX l u) (h : post (nI (l.countP (gf_fr l)))) : wpX_frontier post u := by
  obtain ⟨m, P, V, rfl, hX, hS, hm⟩ := hA
  have hG' := gf_Gp hm.symm hG
  have hl := hG'.2.2
  rw [← gf_fr_p hm] at h
  unfold wpX_frontier
  dsimp only
  refine gf_count (fun n s i => wX_frontier_4 post (nI m.length) P V n (nI s) (nI i)) m (gf_fr m) (fun s => post (nI s)) ?_ ?_ h
  · intro n s hp
    exact br_t (nI_le (Nat.le_refl _) (by omega)) hp
  · intro n s i a e h1 h0
    have hlt := gf_lt e
    refine br_f (nI_ge (by omega) (by omega)) ⟨vp_in_nI (by omega) (by omega), xdm hX hG' (gf_Xc hX hl e).1 (hG'.2.1 a (gf_mem e)) (fun z => br_f (by decide) (nm_r (nI_1 i) (h0 ?_))) (fun z => br_t rfl (nm_r (nI_1 s) (nm_r (nI_1 i) (h1 ?_))))⟩
    · unfold gf_fr; rw [z]; rfl
    · unfold gf_fr; rw [z]; rfl
def gf_b (s : Bool) : Int32 := if s = true then 1 else 0
def gf_fs (p : Nat) (s : Bool) (b : Nat × Int32) : Bool := s && !gf_q p b
theorem gf_fs_a (p : Nat) : ∀ (l : List (Nat × Int32)) (s : Bool), l.foldl (gf_fs p) s = (s && !l.any (gf_q p))
  | [], s => by rw [List.foldl_nil, List.any_nil, Bool.not_false, Bool.and_true]
  | b :: t, s => by
    rw [List.foldl_cons, gf_fs_a p t, List.any_cons, Bool.not_or]
    unfold gf_fs
    rw [Bool.and_assoc]
theorem gf_fs_k {p : Nat} {s : Bool} {b : Nat × Int32} (h : gf_q p b = false) : gf_fs p s b = s := by unfold gf_fs; rw [h, Bool.not_false, Bool.and_true]
theorem gf_fs_d {p : Nat} {s : Bool} {b : Nat × Int32} (h : gf_q p b = true) : gf_fs p s b = false := by unfold gf_fs; rw [h, Bool.not_true, Bool.and_false]
theorem yfr {post : Int32 → Prop} {l : List (Nat × Int32)} {u : SY} (hG : gf_G l) (hA : gf_AY l u) (h : post (nI (l.countP (gf_fr l)))) : wpY_frontier post u := by
  obtain ⟨m, A, B, C, rfl, hY, hm⟩ := hA
  have hG' := gf_Gp hm.symm hG
  have hl := hG'.2.2
  rw [← gf_fr_p hm] at h
  unfold wpY_frontier
  dsimp only
  refine gf_count (fun n s i => wY_frontier_4 post (nI m.length) A B C n (nI s) (nI i)) m (gf_fr m) (fun s => post (nI s)) ?_ ?_ h
  · intro n s hp
    exact br_t (nI_le (Nat.le_refl _) (by omega)) hp
  · intro n c i a e h1 h0
    have hlt := gf_lt e
    have ha := hG'.2.1 a (gf_mem e)
    have ca := gf_Yc hY hl e
    have vi : vp_in (nI i) 40 := vp_in_nI (by omega) (by omega)
    refine br_f (nI_ge (by omega) (by omega)) (br_f (nI_ge (b := 40) (by omega) (by decide)) ⟨m.length + 1, ?_⟩)
    refine gf_loop (fun k s j => wY_frontier_23 post (wY_frontier_4 post (nI m.length) A B C n) (nI c) (nI i) (nI m.length) A B C k (gf_b s) (nI j)) m (gf_fs a.1) (fun _ _ => True) (fun s => s = gf_fr m a) ?_ ?_ (fun _ _ _ _ _ => trivial) true trivial (by rw [gf_fs_a, Bool.true_and]; rfl)
    · intro k s _ hp
      refine br_t (nI_le (Nat.le_refl _) (by omega)) ?_
      cases s with
      | true => exact br_f (by decide) (nm_r (nI_1 c) (nm_r (nI_1 i) (h1 hp.symm)))
      | false => exact br_t rfl (nm_r (nI_1 i) (h0 hp.symm))
    · intro k s j b ej _ hw
      have hjt := gf_lt ej
      have hb := hG'.2.1 b (gf_mem ej)
      have cb := gf_Yc hY hl ej
      have vj : vp_in (nI j) 40 := vp_in_nI (by omega) (by omega)
      refine br_f (nI_ge (by omega) (by omega)) (br_f (nI_ge (b := 40) (by omega) (by decide)) ?_)
      rw [ca.1, ca.2.1, cb.1, cb.2.1]
      have keep : gf_q a.1 b = false → wY_frontier_23 post (wY_frontier_4 post (nI m.length) A B C n) (nI c) (nI i) (nI m.length) A B C k (gf_b s) (nI (j + 1)) := by
        intro z
        rw [gf_fs_k z] at hw
        exact hw
      refine pk_eq j i (fun z => nm_r (nI_1 j) (keep ?_)) (fun z => ⟨vj, vi, pk_lt (b.1 / 32) (a.1 / 32) (fun y => nm_r (nI_1 j) (keep ?_)) (fun y => ⟨vj, vi, pk_lt (b.1 % 32) (a.1 % 32) (fun w => nm_r (nI_1 j) (keep ?_)) (fun w => nm_r (nI_1 j) ?_)⟩)⟩)
      · subst z
        cases Option.some.inj (e.symm.trans ej)
        unfold gf_q
        rw [decide_eq_false (fun w => w rfl)]
        rfl
      · unfold gf_q
        rw [gf_ge_f1 (by omega), Bool.and_false]
      · unfold gf_q
        rw [gf_ge_f2 (by omega), Bool.and_false]
      · have hq : gf_q a.1 b = true := by
          unfold gf_q
          have hne : b.1 ≠ a.1 := fun w => z (gf_Du hG'.1 ej e w)
          rw [decide_eq_true hne, gf_ge_t y w]
          rfl
        rw [gf_fs_d hq] at hw
        exact hw
/-! closest: the least distance of a pair -/
def gf_mi (S : Nat → Prop) : Option Nat → Prop
  | none => ∀ d, ¬ S d
  | some m => S m ∧ ∀ d, S d → m ≤ d
def gf_st : Option Nat → Nat → Option Nat
  | none, d => some d
  | some m, d => if m ≤ d then some m else some d
theorem gf_mi_st {S S' : Nat → Prop} {s : Option Nat} {d : Nat} (h : gf_mi S s) (hS : ∀ x, S' x ↔ (S x ∨ x = d)) : gf_mi S' (gf_st s d) := by
  cases s with
  | none =>
    refine ⟨(hS d).mpr (Or.inr rfl), ?_⟩
    intro x hx
    rcases (hS x).mp hx with z | z
    · exact absurd z (h x)
    · omega
  | some m =>
    by_cases z : m ≤ d
    · rw [show gf_st (some m) d = some m from if_pos z]
      refine ⟨(hS m).mpr (Or.inl h.1), ?_⟩
      intro x hx
      rcases (hS x).mp hx with y | y
      · exact h.2 x y
      · omega
    · rw [show gf_st (some m) d = some d from if_neg z]
      refine ⟨(hS d).mpr (Or.inr rfl), ?_⟩
      intro x hx
      rcases (hS x).mp hx with y | y
      · have := h.2 x y
        omega
      · omega
theorem gf_mi_c {S S' : Nat → Prop} {s : Option Nat} (h : gf_mi S s) (hS : ∀ x, S' x ↔ S x) : gf_mi S' s := by
  have e : S' = S := funext (fun x => propext (hS x))
  rw [e]
  exact h
theorem gf_mi_u {S : Nat → Prop} {s t : Option Nat} (h : gf_mi S s) (h2 : gf_mi S t) : s = t := by
  cases s with
  | none =>
    cases t with
    | none => rfl
    | some m => exact absurd h2.1 (h m)
  | some k =>
    cases t with
    | none => exact absurd h.1 (h2 k)
    | some m =>
      have h3 := h.2 m h2.1
      have h4 := h2.2 k h.1
      rw [Nat.le_antisymm h3 h4]
def gf_pq (l : List (Nat × Int32)) (R : Nat → Nat → Prop) (d : Nat) : Prop := ∃ i j a b, R i j ∧ l[i]? = some a ∧ l[j]? = some b ∧ d = gf_dn a.1 b.1
def gf_pp (l : List (Nat × Int32)) (d : Nat) : Prop := ∃ a b, a ∈ l ∧ b ∈ l ∧ a.1 ≠ b.1 ∧ d = gf_dn a.1 b.1
theorem gf_pp_p {l m : List (Nat × Int32)} (h : l.Perm m) (d : Nat) : gf_pp l d ↔ gf_pp m d := by
  constructor
  · intro ⟨a, b, ha, hb, hn, e⟩
    exact ⟨a, b, h.mem_iff.mp ha, h.mem_iff.mp hb, hn, e⟩
  · intro ⟨a, b, ha, hb, hn, e⟩
    exact ⟨a, b, h.mem_iff.mpr ha, h.mem_iff.mpr hb, hn, e⟩
theorem gf_pq_lt {l : List (Nat × Int32)} (hG : gf_G l) {R : Nat → Nat → Prop} {d : Nat} (h : gf_pq l R d) : d < 2048 := by
  obtain ⟨i, j, a, b, _, ea, eb, rfl⟩ := h
  exact gf_dn_lt (hG.2.1 a (gf_mem ea)) (hG.2.1 b (gf_mem eb))
theorem gf_pq_c {l : List (Nat × Int32)} {R R' : Nat → Nat → Prop} (h : ∀ i j, i < l.length → j < l.length → (R' i j ↔ R i j)) (d : Nat) : gf_pq l R' d ↔ gf_pq l R d := by
  constructor
  · intro ⟨i, j, a, b, r, ea, eb, e⟩
    exact ⟨i, j, a, b, (h i j (gf_lt ea) (gf_lt eb)).mp r, ea, eb, e⟩
  · intro ⟨i, j, a, b, r, ea, eb, e⟩
    exact ⟨i, j, a, b, (h i j (gf_lt ea) (gf_lt eb)).mpr r, ea, eb, e⟩
theorem gf_pq_s {l : List (Nat × Int32)} {R R' : Nat → Nat → Prop} {i j : Nat} {a b : Nat × Int32} (ea : l[i]? = some a) (eb : l[j]? = some b) (h : ∀ i' j', R' i' j' ↔ (R i' j' ∨ (i' = i ∧ j' = j))) (d : Nat) : gf_pq l R' d ↔ (gf_pq l R d ∨ d = gf_dn a.1 b.1) := by
  constructor
  · intro ⟨i', j', a', b', r, ea', eb', e⟩
    rcases (h i' j').mp r with z | ⟨rfl, rfl⟩
    · exact Or.inl ⟨i', j', a', b', z, ea', eb', e⟩
    · cases Option.some.inj (ea.symm.trans ea')
      cases Option.some.inj (eb.symm.trans eb')
      exact Or.inr e
  · intro z
    rcases z with ⟨i', j', a', b', r, ea', eb', e⟩ | e
    · exact ⟨i', j', a', b', (h i' j').mpr (Or.inl r), ea', eb', e⟩
    · exact ⟨i, j, a, b, (h i j).mpr (Or.inr ⟨rfl, rfl⟩), ea, eb, e⟩
theorem gf_pq_x {l : List (Nat × Int32)} (hD : gf_D l) {R : Nat → Nat → Prop} (h1 : ∀ i j, R i j → i ≠ j) (h2 : ∀ i j, i < l.length → j < l.length → i ≠ j → R i j ∨ R j i) (d : Nat) : gf_pp l d ↔ gf_pq l R d := by
  constructor
  · intro ⟨a, b, ha, hb, hn, e⟩
    obtain ⟨i, ei⟩ := gf_idx ha
    obtain ⟨j, ej⟩ := gf_idx hb
    have hij : i ≠ j := by
      intro z
      subst z
      cases Option.some.inj (ei.symm.trans ej)
      exact hn rfl
    rcases h2 i j (gf_lt ei) (gf_lt ej) hij with r | r
    · exact ⟨i, j, a, b, r, ei, ej, e⟩
    · exact ⟨j, i, b, a, r, ej, ei, by rw [e, gf_dn_c]⟩
  · intro ⟨i, j, a, b, r, ei, ej, e⟩
    exact ⟨a, b, gf_mem ei, gf_mem ej, fun z => h1 i j r (gf_Du hD ei ej z), e⟩
def gf_cx : Option Nat → Int32
  | none => 2147483647
  | some m => nI m
def gf_ca : Option Nat → Int32
  | none => -1
  | some m => nI m
theorem xcs {post : Int32 → Prop} {l : List (Nat × Int32)} {u : SX} (hG : gf_G l) (hA : gf_AX l u) (h : ∀ s, gf_mi (gf_pp l) s → post (gf_ca s)) : wpX_closest post u := by
  obtain ⟨m, P, V, rfl, hX, hS, hm⟩ := hA
  have hG' := gf_Gp hm.symm hG
  have hl := hG'.2.2
  have hp : ∀ s, gf_mi (gf_pp m) s → post (gf_ca s) := fun s hs => h s (gf_mi_c hs (fun x => (gf_pp_p hm x).symm))
  have inner : ∀ (Q : Int32 → Int32 → Prop) (i : Nat), i < m.length → (∀ s, gf_mi (gf_pq m (fun i' j' => i' < j' ∧ i' < i + 1)) s → Q (gf_cx s) (nI (i + 1))) → ∀ d j s, i < j → j + d = m.length → gf_mi (gf_pq m (fun i' j' => i' < j' ∧ (i' < i ∨ (i' = i ∧ j' < j)))) s → wX_closest_27 post Q (nI i) (nI m.length) P V (d + 1) (gf_cx s) (nI j) := by
    intro Q i hi hQ d
    induction d with
    | zero =>
      intro j s hij hj hs
      refine br_t (nI_le (by omega) (by omega)) (nm_r (nI_1 i) (hQ s (gf_mi_c hs (gf_pq_c ?_))))
      intro i' j' h1 h2
      omega
    | succ d ih =>
      intro j s hij hj hs
      have ei : m[i]? = some m[i] := List.getElem?_eq_getElem hi
      have ej : m[j]? = some m[j] := List.getElem?_eq_getElem (by omega)
      have vi : vp_in (nI i) 40 := vp_in_nI (by omega) (by omega)
      have vj : vp_in (nI j) 40 := vp_in_nI (by omega) (by omega)
      have hd := gf_dn_lt (hG'.2.1 _ (gf_mem ei)) (hG'.2.1 _ (gf_mem ej))
      have nx := ih (j + 1) (gf_st s (gf_dn m[i].1 m[j].1)) (by omega) (by omega) (gf_mi_st hs (gf_pq_s ei ej (by intro i' j'; omega)))
      refine br_f (nI_ge (by omega) (by omega)) ⟨vi, vj, xdn (gf_Xc hX hl ei).1 (gf_Xc hX hl ej).1 (hG'.2.1 _ (gf_mem ei)) (hG'.2.1 _ (gf_mem ej)) ?_⟩
      cases s with
      | none => exact br_f (nI_ge (b := 2147483647) (by omega) (by decide)) (nm_r (nI_1 j) nx)
      | some k =>
        have hk := gf_pq_lt hG' hs.1
        refine pk_le k (gf_dn m[i].1 m[j].1) (fun z => nm_r (nI_1 j) ?_) (fun z => nm_r (nI_1 j) ?_)
        · rw [show gf_st (some k) (gf_dn m[i].1 m[j].1) = some k from if_pos z] at nx
          exact nx
        · rw [show gf_st (some k) (gf_dn m[i].1 m[j].1) = some (gf_dn m[i].1 m[j].1) from if_neg (by omega)] at nx
          exact nx
  have outer : (∀ s, gf_mi (gf_pp m) s → post (gf_cx s)) → ∀ d i s, i + d = m.length → gf_mi (gf_pq m (fun i' j' => i' < j' ∧ i' < i)) s → wX_closest_15 post (nI m.length) P V (d + 1) (gf_cx s) (nI i) := by
    intro hq d
    induction d with
    | zero =>
      intro i s hi hs
      refine br_t (nI_le (by omega) (by omega)) (hq s (gf_mi_c hs (gf_pq_x hG'.1 ?_ ?_)))
      · intro i' j' r; omega
      · intro i' j' h1 h2 h3; omega
    | succ d ih =>
      intro i s hi hs
      refine br_f (nI_ge (by omega) (by omega)) (nm_r (nI_1 i) ⟨m.length - (i + 1) + 1, ?_⟩)
      refine inner _ i (by omega) (fun s' hs' => ih (i + 1) s' (by omega) hs') (m.length - (i + 1)) (i + 1) s (by omega) (by omega) (gf_mi_c hs (gf_pq_c ?_))
      intro i' j' h1 h2
      omega
  unfold wpX_closest
  dsimp only
  refine pk_le 2 m.length (fun z => ⟨m.length + 1, ?_⟩) (fun z => ?_)
  · refine outer ?_ m.length 0 none (by omega) ?_
    · intro s hs
      cases s with
      | none =>
        have e0 : m[0]? = some m[0] := List.getElem?_eq_getElem (by omega)
        have e1 : m[1]? = some m[1] := List.getElem?_eq_getElem (by omega)
        exact absurd ⟨m[0], m[1], gf_mem e0, gf_mem e1, gf_pw.mp hG'.1 0 1 _ _ (by omega) e0 e1, rfl⟩ (hs _)
      | some k => exact hp (some k) hs
    · intro d ⟨i, j, a, b, r, _⟩
      omega
  · refine hp none ?_
    intro d ⟨a, b, ha, hb, hn, _⟩
    obtain ⟨i, ei⟩ := gf_idx ha
    obtain ⟨j, ej⟩ := gf_idx hb
    have h1 := gf_lt ei
    have h2 := gf_lt ej
    have e : i = j := by omega
    subst e
    cases Option.some.inj (ei.symm.trans ej)
    exact hn rfl
theorem ycs {post : Int32 → Prop} {l : List (Nat × Int32)} {u : SY} (hG : gf_G l) (hA : gf_AY l u) (h : ∀ s, gf_mi (gf_pp l) s → post (gf_ca s)) : wpY_closest post u := by
  obtain ⟨m, A, B, C, rfl, hY, hm⟩ := hA
  have hG' := gf_Gp hm.symm hG
  have hl := hG'.2.2
  have hp : ∀ s, gf_mi (gf_pp m) s → post (gf_ca s) := fun s hs => h s (gf_mi_c hs (fun x => (gf_pp_p hm x).symm))
  have inner : ∀ (Q : Int32 → Int32 → Prop) (i : Nat), i < m.length → (∀ s, gf_mi (gf_pq m (fun i' j' => j' < i' ∧ i' < i + 1)) s → Q (gf_ca s) (nI (i + 1))) → ∀ d j s, j + d = i → gf_mi (gf_pq m (fun i' j' => j' < i' ∧ (i' < i ∨ (i' = i ∧ j' < j)))) s → wY_closest_20 post Q (nI i) (nI m.length) A B C (d + 1) (gf_ca s) (nI j) := by
    intro Q i hi hQ d
    induction d with
    | zero =>
      intro j s hj hs
      refine br_t (nI_le (by omega) (by omega)) (nm_r (nI_1 i) (hQ s (gf_mi_c hs (gf_pq_c ?_))))
      intro i' j' h1 h2
      omega
    | succ d ih =>
      intro j s hj hs
      have ei : m[i]? = some m[i] := List.getElem?_eq_getElem hi
      have ej : m[j]? = some m[j] := List.getElem?_eq_getElem (by omega)
      have vi : vp_in (nI i) 40 := vp_in_nI (by omega) (by omega)
      have vj : vp_in (nI j) 40 := vp_in_nI (by omega) (by omega)
      have hd := gf_dn_lt (hG'.2.1 _ (gf_mem ei)) (hG'.2.1 _ (gf_mem ej))
      have nx := ih (j + 1) (gf_st s (gf_dn m[i].1 m[j].1)) (by omega) (gf_mi_st hs (gf_pq_s ei ej (by intro i' j'; omega)))
      have cj := gf_Yc hY hl ej
      refine br_f (nI_ge (by omega) (by omega)) ⟨vj, vj, ydn (q := m[j].1) hY hl ei cj.1 cj.2.1 ?_⟩
      cases s with
      | none => exact br_t (by decide) (nm_r (nI_1 j) nx)
      | some k =>
        have hk := gf_pq_lt hG' hs.1
        refine br_f (nI_pos (by omega)) (pk_le k (gf_dn m[i].1 m[j].1) (fun z => nm_r (nI_1 j) ?_) (fun z => nm_r (nI_1 j) ?_))
        · rw [show gf_st (some k) (gf_dn m[i].1 m[j].1) = some k from if_pos z] at nx
          exact nx
        · rw [show gf_st (some k) (gf_dn m[i].1 m[j].1) = some (gf_dn m[i].1 m[j].1) from if_neg (by omega)] at nx
          exact nx
  have outer : ∀ d i s, i + d = m.length → gf_mi (gf_pq m (fun i' j' => j' < i' ∧ i' < i)) s → wY_closest_4 post (nI m.length) A B C (d + 1) (gf_ca s) (nI i) := by
    intro d
    induction d with
    | zero =>
      intro i s hi hs
      refine br_t (nI_le (by omega) (by omega)) (hp s (gf_mi_c hs (gf_pq_x hG'.1 ?_ ?_)))
      · intro i' j' r; omega
      · intro i' j' h1 h2 h3; omega
    | succ d ih =>
      intro i s hi hs
      refine br_f (nI_ge (by omega) (by omega)) (br_f (nI_ge (b := 40) (by omega) (by decide)) ⟨i + 1, ?_⟩)
      refine inner _ i (by omega) (fun s' hs' => ih (i + 1) s' (by omega) hs') i 0 s (by omega) (gf_mi_c hs (gf_pq_c ?_))
      intro i' j' h1 h2
      omega
  unfold wpY_closest
  dsimp only
  refine ⟨m.length + 1, outer m.length 0 none (by omega) ?_⟩
  intro d ⟨i, j, a, b, r, _⟩
  omega
