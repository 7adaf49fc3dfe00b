section
theorem pk_us {f : Nat → Int32} {k : Nat} {x : Int32} : upd f k x k = x := if_pos rfl
theorem pk_un {f : Nat → Int32} {k j : Nat} {x : Int32} (h : j ≠ k) : upd f k x j = f j := if_neg h
theorem pk_sub {a b : Nat} (h : b ≤ a) : nI a - nI b = nI (a - b) := by
  obtain ⟨c, rfl⟩ : ∃ c, a = c + b := ⟨a - b, by omega⟩
  rw [← nI_add, Int32.add_sub_cancel, Nat.add_sub_cancel]
theorem pk_m1 (n : Nat) : nI (n + 1) + (-1) = nI n := by
  rw [← nI_1, Int32.add_assoc, show (1 : Int32) + (-1) = 0 from rfl, Int32.add_zero]
theorem pk_mul (a b : Nat) : nI a * nI b = nI (a * b) := (Int32.ofNat_mul a b).symm
theorem pk_div {a d : Nat} (ha : a < 2 ^ 31) (h0 : 0 < d) (hd : d < 2 ^ 31) : nI a / nI d = nI (a / d) := by
  apply Int32.toInt_inj.mp
  rw [lg_idiv_nonneg (by rw [nI_toInt ha]; omega) (by rw [nI_toInt hd]; omega), nI_toInt ha, nI_toInt hd, nI_toInt (Nat.lt_of_le_of_lt (Nat.div_le_self a d) ha)]
  first | rfl | exact (Int.natCast_ediv _ _).symm
theorem pk_rem {a d : Nat} (ha : a < 2 ^ 31) (h0 : 0 < d) (hd : d < 2 ^ 31) : nI a - nI a / nI d * nI d = nI (a % d) := by
  rw [pk_div ha h0 hd, pk_mul, pk_sub (Nat.div_mul_le_self a d)]
  exact congrArg nI (by have := Nat.div_add_mod' a d; omega)
theorem pk_le {x y : Int32} {A B : Prop} (a b : Nat) (f : a ≤ b → A) (g : b < a → B) (hx : x = nI a := by rfl) (hy : y = nI b := by rfl) (ha : a < 2 ^ 31 := by omega) (hb : b < 2 ^ 31 := by omega) : (x ≤ y → A) ∧ (¬ x ≤ y → B) := by
  subst hx hy
  rw [nI_leI ha hb]
  exact ⟨f, fun z => g (by omega)⟩
theorem pk_lt {x y : Int32} {A B : Prop} (a b : Nat) (f : a < b → A) (g : b ≤ a → B) (hx : x = nI a := by rfl) (hy : y = nI b := by rfl) (ha : a < 2 ^ 31 := by omega) (hb : b < 2 ^ 31 := by omega) : (x < y → A) ∧ (¬ x < y → B) := by
  subst hx hy
  rw [nI_ltI ha hb]
  exact ⟨f, fun z => g (by omega)⟩
theorem pk_eq {x y : Int32} {A B : Prop} (a b : Nat) (f : a = b → A) (g : a ≠ b → B) (hx : x = nI a := by rfl) (hy : y = nI b := by rfl) (ha : a < 2 ^ 31 := by omega) (hb : b < 2 ^ 31 := by omega) : (x = y → A) ∧ (¬ x = y → B) := by
  subst hx hy
  rw [nI_eq ha hb]
  exact ⟨f, g⟩
theorem pk_in {x : Int32} (n N : Nat) (h : n < N) (hx : x = nI n := by rfl) (hN : N < 2 ^ 31 := by omega) : vp_in x N := by
  subst hx
  exact vp_in_nI h hN
theorem pk_cl {x : Int32} (n : Nat) (hx : x = nI n := by rfl) (h : n < 2 ^ 31 := by omega) : x.toNatClampNeg = n := by
  subst hx
  exact nI_clamp h
theorem pk_tn {n : Nat} (h : n < 2 ^ 32) : (nI n).toBitVec.toNat = n := Nat.mod_eq_of_lt h
theorem pk_and (x : Int32) {m : Int32} (k : Nat) (hm : m.toBitVec.toNat = 2 ^ k - 1) : x &&& m = nI (x.toBitVec.toNat % 2 ^ k) := by
  apply Int32.toBitVec_inj.mp
  apply BitVec.eq_of_toNat_eq
  rw [Int32.toBitVec_and, BitVec.toNat_and, hm, Nat.and_two_pow_sub_one_eq_mod]
  show _ = (BitVec.ofNat 32 _).toNat
  rw [BitVec.toNat_ofNat]
  exact (Nat.mod_eq_of_lt (Nat.lt_of_le_of_lt (Nat.mod_le _ _) x.toBitVec.isLt)).symm
theorem pk_andE (x : Int32) {m : Int32} (k : Nat) (hm : m.toBitVec.toNat = 2 ^ k - 1) : ∃ j : Nat, j < 2 ^ k ∧ x &&& m = nI j := ⟨_, Nat.mod_lt _ (Nat.two_pow_pos k), pk_and x k hm⟩
theorem gf_div {a : Nat} (h : a < 1024) : nI a / 32 = nI (a / 32) := pk_div (d := 32) (by omega) (by decide) (by decide)
theorem gf_rem {a : Nat} (h : a < 1024) : nI a - nI a / 32 * 32 = nI (a % 32) := pk_rem (d := 32) (by omega) (by decide) (by decide)
theorem gf_pl (a b : Nat) : 32 * nI a + nI b = nI (32 * a + b) := by
  rw [show (32 : Int32) = nI 32 from rfl, pk_mul, nI_add]
theorem gf_n0 {a b : Prop} (h : ¬ (a ∧ b)) (x : a) : ¬ b := fun y => h ⟨x, y⟩
/-- a loop over a list, as a fold, with a side condition -/
theorem gf_loop {σ α : Type} (W : Nat → σ → Nat → Prop) (l : List α) (f : σ → α → σ) (J : Nat → σ → Prop) (post : σ → Prop)
    (hx : ∀ n s, J l.length s → post s → W (n + 1) s l.length)
    (hs : ∀ n s i a, l[i]? = some a → J i s → W n (f s a) (i + 1) → W (n + 1) s i)
    (hJ : ∀ s i a, l[i]? = some a → J i s → J (i + 1) (f s a)) (s : σ) (h0 : J 0 s) (hp : post (l.foldl f s)) : W (l.length + 1) s 0 := by
  have key : ∀ d i s, i + d = l.length → J i s → post ((l.drop i).foldl f s) → W (d + 1) s i := by
    intro d
    induction d with
    | zero =>
      intro i s hi hj hp
      have e : i = l.length := by omega
      subst e
      rw [List.drop_length] at hp
      exact hx 0 s hj hp
    | succ d ih =>
      intro i s hi hj hp
      have hlt : i < l.length := by omega
      rw [List.drop_eq_getElem_cons hlt, List.foldl_cons] at hp
      have e : l[i]? = some l[i] := List.getElem?_eq_getElem hlt
      exact hs (d + 1) s i l[i] e hj (ih (i + 1) _ (by omega) (hJ s i _ e hj) hp)
  exact key l.length 0 s (by omega) h0 (by rw [List.drop_zero]; exact hp)
/-- a loop over a list that counts -/
theorem gf_count {α : Type} (W : Nat → Nat → Nat → Prop) (l : List α) (p : α → Bool) (post : Nat → Prop)
    (hx : ∀ n s, post s → W (n + 1) s l.length)
    (hs : ∀ n s i a, l[i]? = some a → (p a = true → W n (s + 1) (i + 1)) → (p a = false → W n s (i + 1)) → W (n + 1) s i)
    (hp : post (l.countP p)) : ∃ n, W n 0 0 := by
  have key : ∀ d i s, i + d = l.length → post (s + (l.drop i).countP p) → W (d + 1) s i := by
    intro d
    induction d with
    | zero =>
      intro i s hi hp
      have e : i = l.length := by omega
      subst e
      rw [List.drop_length, List.countP_nil] at hp
      exact hx 0 s hp
    | succ d ih =>
      intro i s hi hp
      have hlt : i < l.length := by omega
      rw [List.drop_eq_getElem_cons hlt] at hp
      have e : l[i]? = some l[i] := List.getElem?_eq_getElem hlt
      refine hs (d + 1) s i l[i] e (fun h => ih (i + 1) _ (by omega) ?_) (fun h => ih (i + 1) _ (by omega) ?_)
      · rw [List.countP_cons_of_pos h] at hp
        rw [show s + 1 + List.countP p (List.drop (i + 1) l) = s + (List.countP p (List.drop (i + 1) l) + 1) by omega]
        exact hp
      · rw [List.countP_cons_of_neg (by rw [h]; decide)] at hp
        exact hp
  exact ⟨l.length + 1, key l.length 0 0 (by omega) (by rw [List.drop_zero, Nat.zero_add]; exact hp)⟩
theorem gf_pw {α : Type} {R : α → α → Prop} {l : List α} : l.Pairwise R ↔ ∀ (i j : Nat) (a b : α), i < j → l[i]? = some a → l[j]? = some b → R a b := by
  rw [List.pairwise_iff_getElem]
  constructor
  · intro h i j a b hij ha hb
    obtain ⟨hi, rfl⟩ := List.getElem?_eq_some_iff.mp ha
    obtain ⟨hj, rfl⟩ := List.getElem?_eq_some_iff.mp hb
    exact h i j hi hj hij
  · intro h i j hi hj hij
    exact h i j _ _ hij (List.getElem?_eq_getElem hi) (List.getElem?_eq_getElem hj)
theorem gf_lt {α : Type} {l : List α} {i : Nat} {a : α} (h : l[i]? = some a) : i < l.length := (List.getElem?_eq_some_iff.mp h).1
theorem gf_mem {α : Type} {l : List α} {i : Nat} {a : α} (h : l[i]? = some a) : a ∈ l := List.mem_of_getElem? h
theorem gf_idx {α : Type} {l : List α} {a : α} (h : a ∈ l) : ∃ i : Nat, l[i]? = some a := List.mem_iff_getElem?.mp h
/-- distinct places -/
def gf_D (l : List (Nat × Int32)) : Prop := l.Pairwise (fun a b => a.1 ≠ b.1)
def gf_S (l : List (Nat × Int32)) : Prop := l.Pairwise (fun a b => a.1 < b.1)
def gf_G (l : List (Nat × Int32)) : Prop := gf_D l ∧ (∀ a ∈ l, a.1 < 1024) ∧ l.length ≤ 40
theorem gf_Dp {l m : List (Nat × Int32)} (h : l.Perm m) (hD : gf_D l) : gf_D m := List.Perm.pairwise h hD (fun x => Ne.symm x)
theorem gf_Gp {l m : List (Nat × Int32)} (h : l.Perm m) (hG : gf_G l) : gf_G m :=
  ⟨gf_Dp h hG.1, fun a ha => hG.2.1 a (h.mem_iff.mpr ha), by rw [← h.length_eq]; exact hG.2.2⟩
theorem gf_Du {l : List (Nat × Int32)} (hD : gf_D l) {i j : Nat} {a b : Nat × Int32} (ha : l[i]? = some a) (hb : l[j]? = some b) (e : a.1 = b.1) : i = j := by
  rcases Nat.lt_trichotomy i j with h | h | h
  · exact absurd e (gf_pw.mp hD i j a b h ha hb)
  · exact h
  · exact absurd e.symm (gf_pw.mp hD j i b a h hb ha)
theorem gf_Dm {l : List (Nat × Int32)} (hD : gf_D l) {a b : Nat × Int32} (ha : a ∈ l) (hb : b ∈ l) (e : a.1 = b.1) : a = b := by
  obtain ⟨i, hi⟩ := gf_idx ha
  obtain ⟨j, hj⟩ := gf_idx hb
  have := gf_Du hD hi hj e
  subst this
  exact Option.some.inj (hi.symm.trans hj)
/-- is there a point at q -/
def gf_h (l : List (Nat × Int32)) (q : Nat) : Bool := l.any (fun a => decide (a.1 = q))
theorem gf_h_t {l : List (Nat × Int32)} {q : Nat} {a : Nat × Int32} (h : a ∈ l) (e : a.1 = q) : gf_h l q = true :=
  List.any_eq_true.mpr ⟨a, h, decide_eq_true e⟩
theorem gf_h_f {l : List (Nat × Int32)} {q : Nat} (h : ∀ a ∈ l, a.1 ≠ q) : gf_h l q = false :=
  List.any_eq_false.mpr (fun a ha => by rw [decide_eq_true_eq]; exact h a ha)
theorem gf_h_e {l : List (Nat × Int32)} {q : Nat} (h : gf_h l q = true) : ∃ a ∈ l, a.1 = q := by
  obtain ⟨a, ha, e⟩ := List.any_eq_true.mp h
  exact ⟨a, ha, of_decide_eq_true e⟩
theorem gf_h_n {l : List (Nat × Int32)} {q : Nat} (h : gf_h l q = false) : ∀ a ∈ l, a.1 ≠ q := by
  intro a ha e
  rw [gf_h_t ha e] at h
  cases h
theorem gf_h_p {l m : List (Nat × Int32)} (h : l.Perm m) (q : Nat) : gf_h l q = gf_h m q := h.any_eq
def gf_rp (q : Nat) (v : Int32) (a : Nat × Int32) : Nat × Int32 := if a.1 = q then (q, v) else a
theorem gf_rp1 (q : Nat) (v : Int32) (a : Nat × Int32) : (gf_rp q v a).1 = a.1 := by
  unfold gf_rp
  split
  · rename_i h; exact h.symm
  · rfl
/-- what put makes of the points -/
def gf_put (l : List (Nat × Int32)) (q : Nat) (v : Int32) : List (Nat × Int32) :=
  if gf_h l q = true then l.map (gf_rp q v) else if 40 ≤ l.length then l else (q, v) :: l
def gf_pr (l : List (Nat × Int32)) (q : Nat) : Int32 :=
  if gf_h l q = true then 0 else if 40 ≤ l.length then -2 else 1
theorem gf_put_p {l m : List (Nat × Int32)} (h : l.Perm m) (q : Nat) (v : Int32) : (gf_put l q v).Perm (gf_put m q v) := by
  unfold gf_put
  rw [gf_h_p h, h.length_eq]
  split
  · exact h.map _
  · split
    · exact h
    · exact h.cons _
theorem gf_pr_p {l m : List (Nat × Int32)} (h : l.Perm m) (q : Nat) : gf_pr l q = gf_pr m q := by
  unfold gf_pr
  rw [gf_h_p h, h.length_eq]
theorem gf_Gc {l : List (Nat × Int32)} (hG : gf_G l) {q : Nat} {v : Int32} (hq : q < 1024) (hn : ∀ a ∈ l, a.1 ≠ q) (hl : l.length < 40) : gf_G ((q, v) :: l) := by
  refine ⟨List.pairwise_cons.mpr ⟨fun a ha => Ne.symm (hn a ha), hG.1⟩, ?_, by rw [List.length_cons]; omega⟩
  intro a ha
  rcases List.mem_cons.mp ha with rfl | h
  · exact hq
  · exact hG.2.1 a h
theorem gf_put_G {l : List (Nat × Int32)} (hG : gf_G l) {q : Nat} (hq : q < 1024) (v : Int32) : gf_G (gf_put l q v) := by
  unfold gf_put
  split
  · refine ⟨List.pairwise_map.mpr ?_, ?_, by rw [List.length_map]; exact hG.2.2⟩
    · refine List.Pairwise.imp ?_ hG.1
      intro a b h
      rw [gf_rp1, gf_rp1]
      exact h
    · intro a ha
      obtain ⟨b, hb, rfl⟩ := List.mem_map.mp ha
      rw [gf_rp1]
      exact hG.2.1 b hb
  · rename_i h
    split
    · exact hG
    · exact gf_Gc hG hq (gf_h_n (by rw [Bool.not_eq_true] at h; exact h)) (by omega)
/-- the points without that at q -/
def gf_rm (l : List (Nat × Int32)) (q : Nat) : List (Nat × Int32) := l.filter (fun a => decide (a.1 ≠ q))
theorem gf_Gf {l : List (Nat × Int32)} (hG : gf_G l) (p : Nat × Int32 → Bool) : gf_G (l.filter p) :=
  ⟨List.Pairwise.filter p hG.1, fun a ha => hG.2.1 a (List.mem_filter.mp ha).1, Nat.le_trans (List.length_filter_le p l) hG.2.2⟩
theorem gf_rm_all {l : List (Nat × Int32)} {q : Nat} (h : ∀ a ∈ l, a.1 ≠ q) : gf_rm l q = l :=
  List.filter_eq_self.mpr (fun a ha => decide_eq_true (h a ha))
theorem gf_rm_n {l : List (Nat × Int32)} {q : Nat} : ∀ a ∈ gf_rm l q, a.1 ≠ q := fun _ ha => of_decide_eq_true (List.mem_filter.mp ha).2
theorem gf_rm_c {a : Nat × Int32} {l : List (Nat × Int32)} {q : Nat} (h : a.1 ≠ q) : gf_rm (a :: l) q = a :: gf_rm l q :=
  List.filter_cons_of_pos (decide_eq_true h)
theorem gf_rm_d {a : Nat × Int32} {l : List (Nat × Int32)} {q : Nat} (h : a.1 = q) : gf_rm (a :: l) q = gf_rm l q :=
  List.filter_cons_of_neg (by rw [decide_eq_true_eq]; exact fun z => z h)
theorem gf_er : ∀ (l : List (Nat × Int32)) (i : Nat) (a : Nat × Int32), gf_D l → l[i]? = some a → l.eraseIdx i = gf_rm l a.1
  | [], i, a, _, h => by rw [List.getElem?_nil] at h; cases h
  | b :: t, 0, a, hD, h => by
    rw [List.getElem?_cons_zero] at h
    cases h
    rw [List.eraseIdx_cons_zero, gf_rm_d rfl, gf_rm_all (fun c hc => Ne.symm ((List.pairwise_cons.mp hD).1 c hc))]
  | b :: t, i + 1, a, hD, h => by
    rw [List.getElem?_cons_succ] at h
    rw [List.eraseIdx_cons_succ, gf_rm_c ((List.pairwise_cons.mp hD).1 a (gf_mem h)), gf_er t i a (List.pairwise_cons.mp hD).2 h]
def gf_mv (p q : Nat) (a : Nat × Int32) : Nat × Int32 := if a.1 = p then (q, a.2) else a
theorem gf_mv_all {l : List (Nat × Int32)} {p q : Nat} (h : ∀ a ∈ l, a.1 ≠ p) : l.map (gf_mv p q) = l := by
  have e : l.map (gf_mv p q) = l.map id := List.map_congr_left (fun a ha => if_neg (h a ha))
  rw [e, List.map_id]
theorem gf_mvp (q : Nat) : ∀ (l : List (Nat × Int32)) (a : Nat × Int32), gf_D l → a ∈ l → (l.map (gf_mv a.1 q)).Perm ((q, a.2) :: gf_rm l a.1)
  | [], a, _, h => by cases h
  | b :: t, a, hD, h => by
    have hb := (List.pairwise_cons.mp hD).1
    by_cases e : b.1 = a.1
    · have eb : a = b := gf_Dm hD h List.mem_cons_self e.symm
      subst eb
      have hn : ∀ c ∈ t, c.1 ≠ a.1 := fun c hc => Ne.symm (hb c hc)
      rw [List.map_cons, gf_mv_all hn, gf_rm_d rfl, gf_rm_all hn, show gf_mv a.1 q a = (q, a.2) from if_pos rfl]
    · have ht : a ∈ t := by
        rcases List.mem_cons.mp h with z | z
        · exact absurd (by rw [z]) e
        · exact z
      rw [List.map_cons, gf_rm_c e, show gf_mv a.1 q b = b from if_neg e]
      exact ((gf_mvp q t a (List.pairwise_cons.mp hD).2 ht).cons b).trans (List.Perm.swap _ _ _)
end
section
/-! the small methods of both sides -/
def gf_C (x : Int32) : Prop := ∃ a : Nat, a < 32 ∧ x = nI a
def gf_P (x : Int32) : Prop := ∃ a : Nat, a < 1024 ∧ x = nI a
def gf_R (x y : Int32) : Prop := ∃ lo hi : Nat, lo < 1024 ∧ hi < 1024 ∧ x = nI lo ∧ y = nI hi ∧ lo / 32 ≤ hi / 32 ∧ lo % 32 ≤ hi % 32
theorem xc_t {post : Int32 → Prop} {a : Nat} (h : a < 32) (hp : post 1) : wpX_isCoordinate post (nI a) :=
  br_f (nI_pos (by omega)) (br_f (nI_ge (b := 32) h (by decide)) hp)
theorem xc_f {post : Int32 → Prop} {x : Int32} (h : ¬ gf_C x) (hp : post 0) : wpX_isCoordinate post x := by
  by_cases h0 : x < 0
  · exact br_t h0 hp
  · obtain ⟨j, hj, rfl⟩ := nI_of h0
    have hn : ¬ j < 32 := fun z => h ⟨j, z, rfl⟩
    exact br_f h0 (br_t (nI_le (a := 32) (by omega) hj) hp)
theorem xg_t {post : Int32 → Prop} {a b : Nat} (ha : a < 32) (hb : b < 32) (hp : post 1) : wpX_isGoodPlace post (nI a) (nI b) := by
  unfold wpX_isGoodPlace
  exact xc_t ha (br_f (by decide) (xc_t hb (br_f (by decide) hp)))
theorem xg_f {post : Int32 → Prop} {x y : Int32} (h : ¬ (gf_C x ∧ gf_C y)) (hp : post 0) : wpX_isGoodPlace post x y := by
  unfold wpX_isGoodPlace
  by_cases hx : gf_C x
  · have hy : ¬ gf_C y := gf_n0 h hx
    obtain ⟨a, ha, rfl⟩ := hx
    exact xc_t ha (br_f (by decide) (xc_f hy (br_t rfl hp)))
  · exact xc_f hx (br_t rfl hp)
theorem xp_t {post : Int32 → Prop} {a : Nat} (h : a < 1024) (hp : post 1) : wpX_isPlaceNumber post (nI a) :=
  br_f (nI_pos (by omega)) (br_f (nI_ge (b := 1024) h (by decide)) hp)
theorem xp_f {post : Int32 → Prop} {x : Int32} (h : ¬ gf_P x) (hp : post 0) : wpX_isPlaceNumber post x := by
  by_cases h0 : x < 0
  · exact br_t h0 hp
  · obtain ⟨j, hj, rfl⟩ := nI_of h0
    have hn : ¬ j < 1024 := fun z => h ⟨j, z, rfl⟩
    exact br_f h0 (br_t (nI_le (a := 1024) (by omega) hj) hp)
/-- at or beyond, inside -/
def gf_ge (p q : Nat) : Bool := decide (q / 32 ≤ p / 32) && decide (q % 32 ≤ p % 32)
def gf_in (lo hi p : Nat) : Bool := gf_ge p lo && gf_ge hi p
theorem gf_ge_t {p q : Nat} (h : q / 32 ≤ p / 32) (h2 : q % 32 ≤ p % 32) : gf_ge p q = true := by
  unfold gf_ge; rw [decide_eq_true h, decide_eq_true h2]; rfl
theorem gf_ge_f1 {p q : Nat} (h : ¬ q / 32 ≤ p / 32) : gf_ge p q = false := by
  unfold gf_ge; rw [decide_eq_false h]; rfl
theorem gf_ge_f2 {p q : Nat} (h : ¬ q % 32 ≤ p % 32) : gf_ge p q = false := by
  unfold gf_ge; rw [decide_eq_false h, Bool.and_false]
theorem xa {post : Int32 → Prop} {x y : Int32} {p q : Nat} (ex : x = nI p) (ey : y = nI q) (hp : p < 1024) (hq : q < 1024) (h1 : gf_ge p q = true → post 1) (h0 : gf_ge p q = false → post 0) : wpX_isAtOrBeyond post x y := by
  subst ex ey
  unfold wpX_isAtOrBeyond
  rw [gf_rem hp, gf_rem hq, gf_div hp, gf_div hq]
  exact ⟨by decide, by decide, pk_lt (p / 32) (q / 32) (fun h => h0 (gf_ge_f1 (by omega))) (fun h => ⟨by decide, by decide, pk_lt (p % 32) (q % 32) (fun h' => h0 (gf_ge_f2 (by omega))) (fun h' => h1 (gf_ge_t h h'))⟩)⟩
theorem xi {post : Int32 → Prop} {x : Int32} {p lo hi : Nat} (ex : x = nI p) (hp : p < 1024) (hlo : lo < 1024) (hhi : hi < 1024) (h1 : gf_in lo hi p = true → post 1) (h0 : gf_in lo hi p = false → post 0) : wpX_isInside post x (nI lo) (nI hi) := by
  unfold wpX_isInside
  refine xa ex rfl hp hlo (fun h => br_f (by decide) (xa rfl ex hhi hp (fun h' => br_f (by decide) (h1 ?_)) (fun h' => br_t rfl (h0 ?_)))) (fun h => br_t rfl (h0 ?_))
  · unfold gf_in; rw [h, h']; rfl
  · unfold gf_in; rw [h, h']; rfl
  · unfold gf_in; rw [h]; rfl
theorem xr_t {post : Int32 → Prop} {lo hi : Nat} (hlo : lo < 1024) (hhi : hi < 1024) (h1 : lo / 32 ≤ hi / 32) (h2 : lo % 32 ≤ hi % 32) (hp : post 1) : wpX_isGoodRectangle post (nI lo) (nI hi) := by
  unfold wpX_isGoodRectangle
  refine xp_t hlo (br_f (by decide) (xp_t hhi (br_f (by decide) (xa rfl rfl hhi hlo (fun h => br_f (by decide) hp) (fun h => ?_)))))
  rw [gf_ge_t h1 h2] at h
  cases h
theorem xr_f {post : Int32 → Prop} {x y : Int32} (h : ¬ gf_R x y) (hp : post 0) : wpX_isGoodRectangle post x y := by
  unfold wpX_isGoodRectangle
  by_cases hx : gf_P x
  · obtain ⟨lo, hlo, rfl⟩ := hx
    refine xp_t hlo (br_f (by decide) ?_)
    by_cases hy : gf_P y
    · obtain ⟨hi, hhi, rfl⟩ := hy
      refine xp_t hhi (br_f (by decide) (xa rfl rfl hhi hlo (fun z => ?_) (fun z => br_t rfl hp)))
      unfold gf_ge at z
      rw [Bool.and_eq_true, decide_eq_true_eq, decide_eq_true_eq] at z
      exact absurd ⟨lo, hi, hlo, hhi, rfl, rfl, z.1, z.2⟩ h
    · exact xp_f hy (br_t rfl hp)
  · exact xp_f hx (br_t rfl hp)
theorem yb_t {post : Int32 → Prop} {s : Int32} {A B C : Nat → Int32} {a : Nat} (h : a < 32) (hp : post 0) : wpY_bad post (s, A, B, C) (nI a) :=
  br_f (nI_pos (by omega)) (br_t (nI_le (b := 31) (by omega) (by decide)) hp)
theorem yb_f {post : Int32 → Prop} {s : Int32} {A B C : Nat → Int32} {x : Int32} (h : ¬ gf_C x) (hp : post 1) : wpY_bad post (s, A, B, C) x := by
  by_cases h0 : x < 0
  · exact br_t h0 hp
  · obtain ⟨j, hj, rfl⟩ := nI_of h0
    have hn : ¬ j < 32 := fun z => h ⟨j, z, rfl⟩
    exact br_f h0 (br_f (nI_ge (a := 31) (by omega) hj) hp)
theorem yp_t {post : Int32 → Prop} {s : Int32} {A B C : Nat → Int32} {a : Nat} (h : a < 1024) (hp : post 0) : wpY_badPlace post (s, A, B, C) (nI a) :=
  br_f (nI_pos (by omega)) (br_t (nI_le (b := 1023) (by omega) (by decide)) hp)
theorem yp_f {post : Int32 → Prop} {s : Int32} {A B C : Nat → Int32} {x : Int32} (h : ¬ gf_P x) (hp : post 1) : wpY_badPlace post (s, A, B, C) x := by
  by_cases h0 : x < 0
  · exact br_t h0 hp
  · obtain ⟨j, hj, rfl⟩ := nI_of h0
    have hn : ¬ j < 1024 := fun z => h ⟨j, z, rfl⟩
    exact br_f h0 (br_f (nI_ge (a := 1023) (by omega) hj) hp)
theorem yr_t {post : Int32 → Prop} {s : Int32} {A B C : Nat → Int32} {lo hi : Nat} (hlo : lo < 1024) (hhi : hi < 1024) (h1 : lo / 32 ≤ hi / 32) (h2 : lo % 32 ≤ hi % 32) (hp : post 0) : wpY_badRectangle post (s, A, B, C) (nI lo) (nI hi) := by
  unfold wpY_badRectangle
  dsimp only
  rw [gf_rem hlo, gf_rem hhi, gf_div hlo, gf_div hhi]
  exact yp_t hlo (br_t rfl (yp_t hhi (br_t rfl ⟨by decide, by decide, br_f (nI_nlt h1 (by omega)) ⟨by decide, by decide, br_t (nI_le h2 (by omega)) hp⟩⟩)))
theorem yr_f {post : Int32 → Prop} {s : Int32} {A B C : Nat → Int32} {x y : Int32} (h : ¬ gf_R x y) (hp : post 1) : wpY_badRectangle post (s, A, B, C) x y := by
  unfold wpY_badRectangle
  dsimp only
  by_cases hx : gf_P x
  · obtain ⟨lo, hlo, rfl⟩ := hx
    refine yp_t hlo (br_t rfl ?_)
    by_cases hy : gf_P y
    · obtain ⟨hi, hhi, rfl⟩ := hy
      refine yp_t hhi (br_t rfl ?_)
      rw [gf_rem hlo, gf_rem hhi, gf_div hlo, gf_div hhi]
      refine ⟨by decide, by decide, pk_lt (hi / 32) (lo / 32) (fun _ => hp) (fun z => ⟨by decide, by decide, pk_le (lo % 32) (hi % 32) (fun z' => ?_) (fun _ => hp)⟩)⟩
      exact absurd ⟨lo, hi, hlo, hhi, rfl, rfl, z, z'⟩ h
    · exact yp_f hy (br_f (by decide) hp)
  · exact yp_f hx (br_f (by decide) hp)
/-! the states against a list of points -/
def gf_X (l : List (Nat × Int32)) (P V : Nat → Int32) : Prop := ∀ (i : Nat) (a : Nat × Int32), l[i]? = some a → P i = nI a.1 ∧ V i = a.2
def gf_Y (l : List (Nat × Int32)) (A B C : Nat → Int32) : Prop := ∀ (i : Nat) (a : Nat × Int32), l[i]? = some a → A i = nI (a.1 / 32) ∧ B i = nI (a.1 % 32) ∧ C i = a.2
def gf_AX (l : List (Nat × Int32)) (u : SX) : Prop := ∃ (m : List (Nat × Int32)) (P V : Nat → Int32), u = (nI m.length, P, V) ∧ gf_X m P V ∧ gf_S m ∧ m.Perm l
def gf_AY (l : List (Nat × Int32)) (v : SY) : Prop := ∃ (m : List (Nat × Int32)) (A B C : Nat → Int32), v = (nI m.length, A, B, C) ∧ gf_Y m A B C ∧ m.Perm l
theorem gf_Xc {l : List (Nat × Int32)} {P V : Nat → Int32} (hX : gf_X l P V) (hl : l.length ≤ 40) {i : Nat} {a : Nat × Int32} (e : l[i]? = some a) : P (nI i).toNatClampNeg = nI a.1 ∧ V (nI i).toNatClampNeg = a.2 := by
  have := gf_lt e
  rw [nI_clamp (by omega)]
  exact hX i a e
theorem gf_Yc {l : List (Nat × Int32)} {A B C : Nat → Int32} (hY : gf_Y l A B C) (hl : l.length ≤ 40) {i : Nat} {a : Nat × Int32} (e : l[i]? = some a) : A (nI i).toNatClampNeg = nI (a.1 / 32) ∧ B (nI i).toNatClampNeg = nI (a.1 % 32) ∧ C (nI i).toNatClampNeg = a.2 := by
  have := gf_lt e
  rw [nI_clamp (by omega)]
  exact hY i a e
theorem xs {post : Int32 → Prop} {l : List (Nat × Int32)} {P V : Nat → Int32} {q : Nat} (hX : gf_X l P V) (hG : gf_G l) (hq : q < 1024) (hf : ∀ i a, l[i]? = some a → a.1 = q → post (nI i)) (hn : (∀ a ∈ l, a.1 ≠ q) → post (-1)) : wpX_slotOf post (nI l.length, P, V) (nI q) := by
  have hl := hG.2.2
  have key : ∀ d i, i + d = l.length → (∀ j a, j < i → l[j]? = some a → a.1 ≠ q) → wX_slotOf_2 post (nI q) (nI l.length) P V (d + 1) (nI i) := by
    intro d
    induction d with
    | zero =>
      intro i hi hj
      refine br_t (nI_le (by omega) (by omega)) (hn ?_)
      intro a ha
      obtain ⟨j, e⟩ := gf_idx ha
      have := gf_lt e
      exact hj j a (by omega) e
    | succ d ih =>
      intro i hi hj
      have e : l[i]? = some l[i] := List.getElem?_eq_getElem (by omega)
      have hb := hG.2.1 _ (gf_mem e)
      refine br_f (nI_ge (by omega) (by omega)) ⟨vp_in_nI (by omega) (by omega), pk_eq (l[i]).1 q (fun h => hf i _ e h) (fun h => nm_r (nI_1 i) (ih (i + 1) (by omega) ?_)) (gf_Xc hX hl e).1 rfl⟩
      intro j a hj' ej
      by_cases z : j = i
      · subst z
        cases Option.some.inj (e.symm.trans ej)
        exact h
      · exact hj j a (by omega) ej
  exact ⟨l.length + 1, key l.length 0 (by omega) (fun j a hj => absurd hj (by omega))⟩
theorem yf {post : Int32 → Prop} {l : List (Nat × Int32)} {A B C : Nat → Int32} {x y : Int32} (hY : gf_Y l A B C) (hG : gf_G l) (hf : ∀ i a, l[i]? = some a → nI (a.1 / 32) = x → nI (a.1 % 32) = y → post (nI i)) (hn : (∀ a ∈ l, ¬ (nI (a.1 / 32) = x ∧ nI (a.1 % 32) = y)) → post (-1)) : wpY_find post (nI l.length, A, B, C) x y := by
  have hl := hG.2.2
  have key : ∀ d i, i + d = l.length → (∀ j a, j < i → l[j]? = some a → ¬ (nI (a.1 / 32) = x ∧ nI (a.1 % 32) = y)) → wY_find_2 post x y (nI l.length) A B C (d + 1) (nI i) := by
    intro d
    induction d with
    | zero =>
      intro i hi hj
      refine br_t (nI_le (by omega) (by omega)) (hn ?_)
      intro a ha
      obtain ⟨j, e⟩ := gf_idx ha
      have := gf_lt e
      exact hj j a (by omega) e
    | succ d ih =>
      intro i hi hj
      have e : l[i]? = some l[i] := List.getElem?_eq_getElem (by omega)
      have c := gf_Yc hY hl e
      have vi : vp_in (nI i) 40 := vp_in_nI (by omega) (by omega)
      have nx : ¬ (nI (l[i].1 / 32) = x ∧ nI (l[i].1 % 32) = y) → wY_find_2 post x y (nI l.length) A B C (d + 1) (nI (i + 1)) := by
        intro h
        refine ih (i + 1) (by omega) ?_
        intro j a hj' ej
        by_cases z : j = i
        · subst z
          cases Option.some.inj (e.symm.trans ej)
          exact h
        · exact hj j a (by omega) ej
      refine br_f (nI_ge (by omega) (by omega)) (br_f (nI_ge (b := 40) (by omega) (by decide)) ⟨vi, br_c (fun h1 => ⟨vi, br_c (fun h2 => ?_) (fun h2 => nm_r (nI_1 i) (nx ?_))⟩) (fun h1 => nm_r (nI_1 i) (nx ?_))⟩)
      · rw [c.1] at h1
        rw [c.2.1] at h2
        exact hf i _ e h1 h2
      · rw [c.2.1] at h2
        exact fun z => h2 z.2
      · rw [c.1] at h1
        exact fun z => h1 z.1
  exact ⟨l.length + 1, key l.length 0 (by omega) (fun j a hj => absurd hj (by omega))⟩
theorem gf_xy {a x y : Nat} (h : a < 1024) (hx : x < 32) (hy : y < 32) : (nI (a / 32) = nI x ∧ nI (a % 32) = nI y) ↔ a = 32 * x + y := by
  rw [nI_eq (by omega) (by omega), nI_eq (by omega) (by omega)]
  omega
theorem yfq {post : Int32 → Prop} {l : List (Nat × Int32)} {A B C : Nat → Int32} {x y : Nat} (hY : gf_Y l A B C) (hG : gf_G l) (hx : x < 32) (hy : y < 32) (hf : ∀ i a, l[i]? = some a → a.1 = 32 * x + y → post (nI i)) (hn : (∀ a ∈ l, a.1 ≠ 32 * x + y) → post (-1)) : wpY_find post (nI l.length, A, B, C) (nI x) (nI y) :=
  yf hY hG (fun i a e h1 h2 => hf i a e ((gf_xy (hG.2.1 a (gf_mem e)) hx hy).mp ⟨h1, h2⟩)) (fun h => hn (fun a ha z => h a ha ((gf_xy (hG.2.1 a ha) hx hy).mpr z)))
theorem yi {post : Int32 → Prop} {l : List (Nat × Int32)} {A B C : Nat → Int32} {s : Int32} {i lo hi : Nat} {a : Nat × Int32} (hY : gf_Y l A B C) (hG : gf_G l) (e : l[i]? = some a) (hlo : lo < 1024) (hhi : hi < 1024) (h1 : gf_in lo hi a.1 = true → post 1) (h0 : gf_in lo hi a.1 = false → post 0) : wpY_inside post (s, A, B, C) (nI i) (nI lo) (nI hi) := by
  have hl := hG.2.2
  have hb := hG.2.1 a (gf_mem e)
  have hi' := gf_lt e
  have c := gf_Yc hY hl e
  have vi : vp_in (nI i) 40 := vp_in_nI (by omega) (by omega)
  unfold wpY_inside
  dsimp only
  rw [gf_rem hlo, gf_rem hhi, gf_div hlo, gf_div hhi, c.1, c.2.1]
  refine ⟨vi, by decide, pk_lt _ _ (fun z => h0 ?_) (fun z1 => ⟨vi, by decide, pk_lt _ _ (fun z => h0 ?_) (fun z2 => ⟨vi, by decide, pk_lt _ _ (fun z => h0 ?_) (fun z3 => ⟨vi, by decide, pk_lt _ _ (fun z => h0 ?_) (fun z4 => h1 ?_) rfl rfl (by omega) (by omega)⟩) rfl rfl (by omega) (by omega)⟩) rfl rfl (by omega) (by omega)⟩) rfl rfl (by omega) (by omega)⟩
  · unfold gf_in; rw [gf_ge_f1 (by omega)]; rfl
  · unfold gf_in; rw [gf_ge_f1 (p := hi) (by omega), Bool.and_false]
  · unfold gf_in; rw [gf_ge_f2 (by omega)]; rfl
  · unfold gf_in; rw [gf_ge_f2 (p := hi) (by omega), Bool.and_false]
  · unfold gf_in; rw [gf_ge_t (by omega) (by omega), gf_ge_t (by omega) (by omega)]; rfl
end
section
/-! stores: putIn, takeOut, store, put, remove, move -/
theorem xpi {post : SX → Prop} {l : List (Nat × Int32)} {P V : Nat → Int32} {q : Nat} {v : Int32} (hX : gf_X l P V) (hG : gf_G l) (hS : gf_S l) (hq : q < 1024) (hn : ∀ a ∈ l, a.1 ≠ q) (hl : l.length < 40) (h : ∀ m P' V', gf_X m P' V' → gf_S m → m.Perm ((q, v) :: l) → post (nI m.length, P', V')) : wpX_putIn post (nI l.length, P, V) (nI q) v := by
  have fin : ∀ s P' V', s ≤ l.length → (∀ i, i < s → P' i = P i ∧ V' i = V i) → (∀ i, s ≤ i → i < l.length → P' (i + 1) = P i ∧ V' (i + 1) = V i) → (∀ i a, s ≤ i → l[i]? = some a → q < a.1) → (∀ i a, i < s → l[i]? = some a → a.1 < q) → wX_putIn_55 post (nI q) v (nI s) (nI l.length) P' V' := by
    intro s P' V' hs h1 h2 h3 h4
    have vs : vp_in (nI s) 40 := vp_in_nI (by omega) (by omega)
    refine ⟨vs, nm_e ⟨vs, nm_e (nm_r (nI_1 l.length) ?_)⟩⟩
    rw [nI_clamp (by omega)]
    have hp := List.perm_insertIdx (q, v) l hs
    have hh := h (l.insertIdx s (q, v)) (upd P' s (nI q)) (upd V' s v) ?_ ?_ hp
    · rw [hp.length_eq, List.length_cons] at hh
      exact hh
    · intro j a e
      rcases Nat.lt_trichotomy j s with z | z | z
      · rw [List.getElem?_insertIdx_of_lt z] at e
        rw [pk_un (by omega), pk_un (by omega), (h1 j z).1, (h1 j z).2]
        exact hX j a e
      · subst z
        rw [List.getElem?_insertIdx_self, if_pos hs] at e
        cases e
        rw [pk_us, pk_us]
        exact ⟨rfl, rfl⟩
      · rw [List.getElem?_insertIdx_of_gt z] at e
        have hj := gf_lt e
        obtain ⟨t, rfl⟩ : ∃ t, j = t + 1 := ⟨j - 1, by omega⟩
        rw [Nat.add_sub_cancel] at e hj
        rw [pk_un (by omega), pk_un (by omega), (h2 t (by omega) hj).1, (h2 t (by omega) hj).2]
        exact hX t a e
    · refine gf_pw.mpr ?_
      intro i j a b hij ea eb
      rcases Nat.lt_trichotomy i s with z | z | z
      · rw [List.getElem?_insertIdx_of_lt z] at ea
        rcases Nat.lt_trichotomy j s with y | y | y
        · rw [List.getElem?_insertIdx_of_lt y] at eb
          exact gf_pw.mp hS i j a b hij ea eb
        · subst y
          rw [List.getElem?_insertIdx_self, if_pos hs] at eb
          cases eb
          exact h4 i a z ea
        · rw [List.getElem?_insertIdx_of_gt y] at eb
          exact gf_pw.mp hS i (j - 1) a b (by omega) ea eb
      · subst z
        rw [List.getElem?_insertIdx_self, if_pos hs] at ea
        cases ea
        rw [List.getElem?_insertIdx_of_gt hij] at eb
        exact h3 (j - 1) b (by omega) eb
      · rw [List.getElem?_insertIdx_of_gt z] at ea
        rw [List.getElem?_insertIdx_of_gt (by omega)] at eb
        exact gf_pw.mp hS (i - 1) (j - 1) a b (by omega) ea eb
  have key : ∀ s P' V', s ≤ l.length → (∀ i, i < s → P' i = P i ∧ V' i = V i) → (∀ i, s ≤ i → i < l.length → P' (i + 1) = P i ∧ V' (i + 1) = V i) → (∀ i a, s ≤ i → l[i]? = some a → q < a.1) → wX_putIn_5 post (nI q) v (nI l.length) (s + 1) (nI s) P' V' := by
    intro s
    induction s with
    | zero =>
      intro P' V' hs h1 h2 h3
      exact br_t (nI_le (a := 0) (b := 0) (Nat.le_refl 0) (by decide)) (fin 0 P' V' hs h1 h2 h3 (fun i a hi => absurd hi (by omega)))
    | succ s ih =>
      intro P' V' hs h1 h2 h3
      have e : l[s]? = some l[s] := List.getElem?_eq_getElem (by omega)
      have hb := hG.2.1 _ (gf_mem e)
      have vs : vp_in (nI s) 40 := vp_in_nI (by omega) (by omega)
      have vs1 : vp_in (nI (s + 1)) 40 := vp_in_nI (by omega) (by omega)
      have ep : P' s = nI l[s].1 := by rw [(h1 s (by omega)).1]; exact (hX s _ e).1
      refine br_f (nI_nle (by omega) (by omega)) ?_
      rw [nI_pred s, nI_clamp (n := s) (by omega), nI_clamp (n := s + 1) (by omega)]
      refine ⟨vs, pk_le l[s].1 q (fun z => fin (s + 1) P' V' hs h1 h2 h3 ?_) (fun z => ⟨vs, vs1, nm_e ⟨vs, vs1, nm_e (nm_r (pk_m1 s) (ih _ _ (by omega) ?_ ?_ ?_))⟩⟩) ep rfl⟩
      · intro i a hi ei
        have hx : l[s].1 < q := by
          have := hn _ (gf_mem e)
          omega
        by_cases y : i = s
        · subst y
          cases Option.some.inj (e.symm.trans ei)
          exact hx
        · exact Nat.lt_trans (gf_pw.mp hS i s a _ (by omega) ei e) hx
      · intro i hi
        rw [pk_un (by omega), pk_un (by omega)]
        exact h1 i (by omega)
      · intro i hi hi2
        by_cases y : i = s
        · subst y
          rw [pk_us, pk_us]
          exact h1 i (by omega)
        · rw [pk_un (by omega), pk_un (by omega)]
          exact h2 i (by omega) hi2
      · intro i a hi ei
        by_cases y : i = s
        · subst y
          cases Option.some.inj (e.symm.trans ei)
          exact z
        · exact h3 i a (by omega) ei
  exact ⟨l.length + 1, key l.length P V (Nat.le_refl _) (fun i _ => ⟨rfl, rfl⟩) (fun i h1 h2 => absurd h1 (by omega)) (fun i a h1 e => absurd h1 (by have := gf_lt e; omega))⟩
theorem gf_el {l : List (Nat × Int32)} {i : Nat} {a : Nat × Int32} (e : l[i]? = some a) : (l.eraseIdx i).length = l.length - 1 := List.length_eraseIdx_of_lt (gf_lt e)
theorem xto {post : SX → Prop} {l : List (Nat × Int32)} {P V : Nat → Int32} {i : Nat} {a : Nat × Int32} (hX : gf_X l P V) (hl : l.length ≤ 40) (e : l[i]? = some a) (h : ∀ P' V', gf_X (l.eraseIdx i) P' V' → post (nI (l.eraseIdx i).length, P', V')) : wpX_takeOut post (nI l.length, P, V) (nI i) := by
  have hi := gf_lt e
  obtain ⟨k, hk⟩ : ∃ k, l.length = k + 1 := ⟨l.length - 1, by omega⟩
  have key : ∀ d j P' V', j + d = k → i ≤ j → (∀ t, t < i → P' t = P t ∧ V' t = V t) → (∀ t, i ≤ t → t < j → P' t = P (t + 1) ∧ V' t = V (t + 1)) → (∀ t, j ≤ t → P' t = P t ∧ V' t = V t) → wX_takeOut_12 post (nI k) (d + 1) (nI j) P' V' := by
    intro d
    induction d with
    | zero =>
      intro j P' V' hj hij h1 h2 h3
      refine br_t (nI_le (by omega) (by omega)) ?_
      have hh := h P' V' ?_
      · rw [gf_el e, hk, Nat.add_sub_cancel] at hh
        exact hh
      · intro t b et
        have ht := gf_lt et
        rw [gf_el e] at ht
        by_cases z : t < i
        · rw [List.getElem?_eraseIdx_of_lt z] at et
          rw [(h1 t z).1, (h1 t z).2]
          exact hX t b et
        · rw [List.getElem?_eraseIdx_of_ge (by omega)] at et
          rw [(h2 t (by omega) (by omega)).1, (h2 t (by omega) (by omega)).2]
          exact hX (t + 1) b et
    | succ d ih =>
      intro j P' V' hj hij h1 h2 h3
      have vj : vp_in (nI j) 40 := vp_in_nI (by omega) (by omega)
      have vj1 : vp_in (nI (j + 1)) 40 := vp_in_nI (by omega) (by omega)
      refine br_f (nI_ge (by omega) (by omega)) ?_
      rw [nI_1 j, nI_clamp (n := j) (by omega), nI_clamp (n := j + 1) (by omega)]
      refine ⟨vj1, vj, nm_e ⟨vj1, vj, nm_e (nm_e (ih (j + 1) _ _ (by omega) (by omega) ?_ ?_ ?_))⟩⟩
      · intro t ht
        rw [pk_un (by omega), pk_un (by omega)]
        exact h1 t ht
      · intro t ht ht2
        by_cases z : t = j
        · subst z
          rw [pk_us, pk_us]
          exact h3 (t + 1) (by omega)
        · rw [pk_un z, pk_un z]
          exact h2 t ht (by omega)
      · intro t ht
        rw [pk_un (by omega), pk_un (by omega)]
        exact h3 t (by omega)
  unfold wpX_takeOut
  dsimp only
  rw [hk]
  exact nm_r (nI_pred k) ⟨k - i + 1, key (k - i) i P V (by omega) (Nat.le_refl _) (fun t _ => ⟨rfl, rfl⟩) (fun t h1 h2 => absurd h1 (by omega)) (fun t _ => ⟨rfl, rfl⟩)⟩
theorem yto {post : SY → Prop} {l : List (Nat × Int32)} {A B C : Nat → Int32} {i : Nat} {a : Nat × Int32} (hY : gf_Y l A B C) (hl : l.length ≤ 40) (e : l[i]? = some a) (h : ∀ A' B' C', gf_Y (l.eraseIdx i) A' B' C' → post (nI (l.eraseIdx i).length, A', B', C')) : wpY_takeOut post (nI l.length, A, B, C) (nI i) := by
  have hi := gf_lt e
  obtain ⟨k, hk⟩ : ∃ k, l.length = k + 1 := ⟨l.length - 1, by omega⟩
  have key : ∀ d j A' B' C', j + d = k → i ≤ j → (∀ t, t < i → A' t = A t ∧ B' t = B t ∧ C' t = C t) → (∀ t, i ≤ t → t < j → A' t = A (t + 1) ∧ B' t = B (t + 1) ∧ C' t = C (t + 1)) → (∀ t, j ≤ t → A' t = A t ∧ B' t = B t ∧ C' t = C t) → wY_takeOut_2 post (nI (k + 1)) (d + 1) (nI j) A' B' C' := by
    intro d
    induction d with
    | zero =>
      intro j A' B' C' hj hij h1 h2 h3
      refine br_t (by rw [nI_pred]; exact nI_le (by omega) (by omega)) (nm_r (nI_pred k) ?_)
      have hh := h A' B' C' ?_
      · rw [gf_el e, hk, Nat.add_sub_cancel] at hh
        exact hh
      · intro t b et
        have ht := gf_lt et
        rw [gf_el e] at ht
        by_cases z : t < i
        · rw [List.getElem?_eraseIdx_of_lt z] at et
          rw [(h1 t z).1, (h1 t z).2.1, (h1 t z).2.2]
          exact hY t b et
        · rw [List.getElem?_eraseIdx_of_ge (by omega)] at et
          have g := h2 t (by omega) (by omega)
          rw [g.1, g.2.1, g.2.2]
          exact hY (t + 1) b et
    | succ d ih =>
      intro j A' B' C' hj hij h1 h2 h3
      have vj : vp_in (nI j) 40 := vp_in_nI (by omega) (by omega)
      have vj1 : vp_in (nI (j + 1)) 40 := vp_in_nI (by omega) (by omega)
      refine br_f (by rw [nI_pred]; exact nI_ge (by omega) (by omega)) (br_f (nI_ge (b := 39) (by omega) (by decide)) ?_)
      rw [nI_1 j, nI_clamp (n := j) (by omega), nI_clamp (n := j + 1) (by omega)]
      refine ⟨vj1, vj, nm_e ⟨vj1, vj, nm_e ⟨vj1, vj, nm_e (nm_e (ih (j + 1) _ _ _ (by omega) (by omega) ?_ ?_ ?_))⟩⟩⟩
      · intro t ht
        rw [pk_un (by omega), pk_un (by omega), pk_un (by omega)]
        exact h1 t ht
      · intro t ht ht2
        by_cases z : t = j
        · subst z
          rw [pk_us, pk_us, pk_us]
          exact h3 (t + 1) (by omega)
        · rw [pk_un z, pk_un z, pk_un z]
          exact h2 t ht (by omega)
      · intro t ht
        rw [pk_un (by omega), pk_un (by omega), pk_un (by omega)]
        exact h3 t (by omega)
  unfold wpY_takeOut
  dsimp only
  rw [hk]
  exact ⟨k - i + 1, key (k - i) i A B C (by omega) (Nat.le_refl _) (fun t _ => ⟨rfl, rfl, rfl⟩) (fun t h1 h2 => absurd h1 (by omega)) (fun t _ => ⟨rfl, rfl, rfl⟩)⟩
theorem gf_put_t {l : List (Nat × Int32)} {q : Nat} (v : Int32) (h : gf_h l q = true) : gf_put l q v = l.map (gf_rp q v) ∧ gf_pr l q = 0 := ⟨if_pos h, if_pos h⟩
theorem gf_put_n {l : List (Nat × Int32)} {q : Nat} (v : Int32) (h : gf_h l q = false) (hl : ¬ 40 ≤ l.length) : gf_put l q v = (q, v) :: l ∧ gf_pr l q = 1 := by
  have hh : ¬ gf_h l q = true := by rw [h]; decide
  exact ⟨(if_neg hh).trans (if_neg hl), (if_neg hh).trans (if_neg hl)⟩
theorem gf_put_o {l : List (Nat × Int32)} {q : Nat} (v : Int32) (h : gf_h l q = false) (hl : 40 ≤ l.length) : gf_put l q v = l ∧ gf_pr l q = -2 := by
  have hh : ¬ gf_h l q = true := by rw [h]; decide
  exact ⟨(if_neg hh).trans (if_pos hl), (if_neg hh).trans (if_pos hl)⟩
theorem xst {post : Int32 → SX → Prop} {l : List (Nat × Int32)} {u : SX} {q : Nat} {v : Int32} (hG : gf_G l) (hA : gf_AX l u) (hq : q < 1024) (h : ∀ u', gf_AX (gf_put l q v) u' → post (gf_pr l q) u') : wpX_store post u (nI q) v := by
  obtain ⟨m, P, V, rfl, hX, hS, hp⟩ := hA
  have hG' := gf_Gp hp.symm hG
  have hl := hG'.2.2
  have pp := gf_put_p hp q v
  rw [← gf_pr_p hp] at h
  unfold wpX_store
  dsimp only
  refine xs hX hG' hq ?_ ?_
  · intro i a e ea
    have hi := gf_lt e
    have g := gf_put_t v (gf_h_t (gf_mem e) ea)
    refine br_f (nI_pos (by omega)) ⟨vp_in_nI (by omega) (by omega), nm_e ?_⟩
    rw [nI_clamp (by omega)]
    rw [g.2] at h
    rw [g.1] at pp
    refine h _ ⟨m.map (gf_rp q v), P, upd V i v, by rw [List.length_map], ?_, ?_, pp⟩
    · intro j b eb
      rw [List.getElem?_map, Option.map_eq_some_iff] at eb
      obtain ⟨c, ec, rfl⟩ := eb
      rw [gf_rp1]
      refine ⟨(hX j c ec).1, ?_⟩
      by_cases z : j = i
      · subst z
        cases Option.some.inj (e.symm.trans ec)
        rw [pk_us, show gf_rp q v a = (q, v) from if_pos ea]
      · have hc : ¬ c.1 = q := fun y => z (gf_Du hG'.1 ec e (y.trans ea.symm))
        rw [pk_un z, show gf_rp q v c = c from if_neg hc]
        exact (hX j c ec).2
    · refine List.pairwise_map.mpr (List.Pairwise.imp ?_ hS)
      intro a b hab
      rw [gf_rp1, gf_rp1]
      exact hab
  · intro hn
    have hf := gf_h_f hn
    refine br_t (by decide) (pk_lt m.length 40 (fun z => ?_) (fun z => ?_))
    · have g := gf_put_n v hf (by omega)
      rw [g.2] at h
      rw [g.1] at pp
      exact xpi hX hG' hS hq hn z (fun k P' V' h1 h2 h3 => h _ ⟨k, P', V', rfl, h1, h2, h3.trans pp⟩)
    · have g := gf_put_o v hf z
      rw [g.2] at h
      rw [g.1] at pp
      exact h _ ⟨m, P, V, rfl, hX, hS, pp⟩
theorem xput {post : Int32 → SX → Prop} {l : List (Nat × Int32)} {u : SX} {x y : Nat} {v : Int32} (hG : gf_G l) (hA : gf_AX l u) (hx : x < 32) (hy : y < 32) (h : ∀ u', gf_AX (gf_put l (32 * x + y) v) u' → post (gf_pr l (32 * x + y)) u') : wpX_put post u (nI x) (nI y) v := by
  obtain ⟨f, P, V⟩ := u
  unfold wpX_put
  dsimp only
  refine xg_t hx hy (br_f (by decide) ?_)
  rw [gf_pl]
  exact xst hG hA (by omega) (fun u' hu => h u' hu)
theorem yput {post : Int32 → SY → Prop} {l : List (Nat × Int32)} {u : SY} {x y : Nat} {v : Int32} (hG : gf_G l) (hA : gf_AY l u) (hx : x < 32) (hy : y < 32) (h : ∀ u', gf_AY (gf_put l (32 * x + y) v) u' → post (gf_pr l (32 * x + y)) u') : wpY_put post u (nI x) (nI y) v := by
  obtain ⟨m, A, B, C, rfl, hY, hp⟩ := hA
  have hG' := gf_Gp hp.symm hG
  have hl := hG'.2.2
  have pp := gf_put_p hp (32 * x + y) v
  rw [← gf_pr_p hp] at h
  unfold wpY_put
  dsimp only
  refine yb_t hx (br_t rfl (yb_t hy (br_t rfl (yfq hY hG' hx hy ?_ ?_))))
  · intro i a e ea
    have hi := gf_lt e
    have g := gf_put_t v (gf_h_t (gf_mem e) ea)
    refine br_f (nI_pos (by omega)) ⟨vp_in_nI (by omega) (by omega), nm_e ?_⟩
    rw [nI_clamp (by omega)]
    rw [g.2] at h
    rw [g.1] at pp
    refine h _ ⟨m.map (gf_rp (32 * x + y) v), A, B, upd C i v, by rw [List.length_map], ?_, pp⟩
    intro j b eb
    rw [List.getElem?_map, Option.map_eq_some_iff] at eb
    obtain ⟨c, ec, rfl⟩ := eb
    rw [gf_rp1]
    refine ⟨(hY j c ec).1, (hY j c ec).2.1, ?_⟩
    by_cases z : j = i
    · subst z
      cases Option.some.inj (e.symm.trans ec)
      rw [pk_us, show gf_rp (32 * x + y) v a = (32 * x + y, v) from if_pos ea]
    · have hc : ¬ c.1 = 32 * x + y := fun y => z (gf_Du hG'.1 ec e (y.trans ea.symm))
      rw [pk_un z, show gf_rp (32 * x + y) v c = c from if_neg hc]
      exact (hY j c ec).2.2
  · intro hn
    have hf := gf_h_f hn
    refine br_t (by decide) (pk_lt m.length 40 (fun z => ?_) (fun z => ?_))
    · have g := gf_put_n v hf (by omega)
      have vl : vp_in (nI m.length) 40 := vp_in_nI (by omega) (by omega)
      rw [g.2] at h
      rw [g.1] at pp
      refine ⟨vl, nm_e ⟨vl, nm_e ⟨vl, nm_e (nm_r (nI_1 m.length) ?_)⟩⟩⟩
      rw [nI_clamp (by omega)]
      refine h _ ⟨m ++ [(32 * x + y, v)], _, _, _, by rw [List.length_append]; rfl, ?_, (List.perm_append_singleton _ _).trans pp⟩
      intro j b eb
      rw [List.getElem?_append] at eb
      by_cases w : j < m.length
      · rw [if_pos w] at eb
        rw [pk_un (by omega), pk_un (by omega), pk_un (by omega)]
        exact hY j b eb
      · rw [if_neg w] at eb
        have := gf_lt eb
        rw [List.length_singleton] at this
        have ej : j = m.length := by omega
        subst ej
        rw [Nat.sub_self, List.getElem?_cons_zero] at eb
        cases eb
        rw [pk_us, pk_us, pk_us]
        exact ⟨congrArg nI (by dsimp only; omega), congrArg nI (by dsimp only; omega), rfl⟩
    · have g := gf_put_o v hf z
      rw [g.2] at h
      rw [g.1] at pp
      exact h _ ⟨m, A, B, C, rfl, hY, pp⟩
theorem xput_f {post : Int32 → SX → Prop} {u : SX} {x y v : Int32} (hc : ¬ (gf_C x ∧ gf_C y)) (h : post (-1) u) : wpX_put post u x y v := by
  obtain ⟨f, P, V⟩ := u
  unfold wpX_put
  dsimp only
  exact xg_f hc (br_t rfl h)
theorem yput_f {post : Int32 → SY → Prop} {u : SY} {x y v : Int32} (hc : ¬ (gf_C x ∧ gf_C y)) (h : post (-1) u) : wpY_put post u x y v := by
  obtain ⟨f, A, B, C⟩ := u
  unfold wpY_put
  dsimp only
  by_cases hx : gf_C x
  · have hy := gf_n0 hc hx
    obtain ⟨a, ha, rfl⟩ := hx
    exact yb_t ha (br_t rfl (yb_f hy (br_f (by decide) h)))
  · exact yb_f hx (br_f (by decide) h)
theorem xrm {post : Int32 → SX → Prop} {l : List (Nat × Int32)} {u : SX} {x y : Nat} (hG : gf_G l) (hA : gf_AX l u) (hx : x < 32) (hy : y < 32) (h1 : gf_h l (32 * x + y) = true → ∀ u', gf_AX (gf_rm l (32 * x + y)) u' → post 0 u') (h0 : gf_h l (32 * x + y) = false → post (-2) u) : wpX_remove post u (nI x) (nI y) := by
  obtain ⟨m, P, V, rfl, hX, hS, hp⟩ := hA
  have hG' := gf_Gp hp.symm hG
  have hl := hG'.2.2
  rw [← gf_h_p hp] at h1 h0
  unfold wpX_remove
  dsimp only
  refine xg_t hx hy (br_f (by decide) ?_)
  rw [gf_pl]
  refine xs hX hG' (by omega) ?_ ?_
  · intro i a e ea
    have hi := gf_lt e
    refine br_t (nI_pos' (by omega)) (xto hX hl e ?_)
    intro P' V' hX'
    have er := gf_er m i a hG'.1 e
    rw [ea] at er
    refine h1 (gf_h_t (gf_mem e) ea) _ ⟨m.eraseIdx i, P', V', rfl, hX', ?_, ?_⟩
    · rw [er]
      exact List.Pairwise.filter _ hS
    · rw [er]
      exact hp.filter _
  · intro hn
    exact br_f (by decide) (h0 (gf_h_f hn))
theorem yrm {post : Int32 → SY → Prop} {l : List (Nat × Int32)} {u : SY} {x y : Nat} (hG : gf_G l) (hA : gf_AY l u) (hx : x < 32) (hy : y < 32) (h1 : gf_h l (32 * x + y) = true → ∀ u', gf_AY (gf_rm l (32 * x + y)) u' → post 0 u') (h0 : gf_h l (32 * x + y) = false → post (-2) u) : wpY_remove post u (nI x) (nI y) := by
  obtain ⟨m, A, B, C, rfl, hY, hp⟩ := hA
  have hG' := gf_Gp hp.symm hG
  have hl := hG'.2.2
  rw [← gf_h_p hp] at h1 h0
  unfold wpY_remove
  dsimp only
  refine yb_t hx (br_t rfl (yb_t hy (br_t rfl (yfq hY hG' hx hy ?_ ?_))))
  · intro i a e ea
    have hi := gf_lt e
    refine br_t (nI_pos' (by omega)) (yto hY hl e ?_)
    intro A' B' C' hY'
    have er := gf_er m i a hG'.1 e
    rw [ea] at er
    refine h1 (gf_h_t (gf_mem e) ea) _ ⟨m.eraseIdx i, A', B', C', rfl, hY', ?_⟩
    rw [er]
    exact hp.filter _
  · intro hn
    exact br_f (by decide) (h0 (gf_h_f hn))
theorem xrm_f {post : Int32 → SX → Prop} {u : SX} {x y : Int32} (hc : ¬ (gf_C x ∧ gf_C y)) (h : post (-1) u) : wpX_remove post u x y := by
  obtain ⟨f, P, V⟩ := u
  unfold wpX_remove
  dsimp only
  exact xg_f hc (br_t rfl h)
theorem yrm_f {post : Int32 → SY → Prop} {u : SY} {x y : Int32} (hc : ¬ (gf_C x ∧ gf_C y)) (h : post (-1) u) : wpY_remove post u x y := by
  obtain ⟨f, A, B, C⟩ := u
  unfold wpY_remove
  dsimp only
  by_cases hx : gf_C x
  · have hy := gf_n0 hc hx
    obtain ⟨a, ha, rfl⟩ := hx
    exact yb_t ha (br_t rfl (yb_f hy (br_f (by decide) h)))
  · exact yb_f hx (br_f (by decide) h)
end
section
/-! move, clear, scatter -/
theorem gf_mv_G {l : List (Nat × Int32)} {p q : Nat} (hG : gf_G l) (hq : q < 1024) (hp : gf_h l p = true) (hn : gf_h l q = false) : gf_G (l.map (gf_mv p q)) := by
  obtain ⟨a, ha, rfl⟩ := gf_h_e hp
  have pm := gf_mvp q l a hG.1 ha
  have hl := pm.length_eq
  rw [List.length_map, List.length_cons] at hl
  have h40 := hG.2.2
  refine gf_Gp pm.symm (gf_Gc (gf_Gf hG _) hq ?_ (by unfold gf_rm at hl; omega))
  intro b hb
  exact gf_h_n hn b (List.mem_filter.mp hb).1
theorem xmv {post : Int32 → SX → Prop} {l : List (Nat × Int32)} {u : SX} {p q : Nat} (hG : gf_G l) (hA : gf_AX l u) (hp : p < 1024) (hq : q < 1024) (h2 : gf_h l p = false → post (-2) u) (h3 : gf_h l p = true → gf_h l q = true → post (-3) u) (h0 : gf_h l p = true → gf_h l q = false → ∀ u', gf_AX (l.map (gf_mv p q)) u' → post 0 u') : wpX_move post u (nI p) (nI q) := by
  obtain ⟨m, P, V, rfl, hX, hS, hm⟩ := hA
  have hG' := gf_Gp hm.symm hG
  have hl := hG'.2.2
  rw [← gf_h_p hm] at h2 h3 h0
  rw [← gf_h_p hm] at h3 h0
  unfold wpX_move
  dsimp only
  refine xp_t hp (br_f (by decide) (xp_t hq (br_f (by decide) (xs hX hG' hp ?_ ?_))))
  · intro i a e ea
    have hi := gf_lt e
    have hhp := gf_h_t (gf_mem e) ea
    refine br_t (nI_pos' (by omega)) (xs hX hG' hq ?_ ?_)
    · intro j b eb hb
      have hj := gf_lt eb
      exact br_f (nI_pos (by omega)) (h3 hhp (gf_h_t (gf_mem eb) hb))
    · intro hn
      have hhq := gf_h_f hn
      refine br_t (by decide) ⟨vp_in_nI (by omega) (by omega), nm_r (gf_Xc hX hl e).2 (xto hX hl e ?_)⟩
      intro P' V' hX'
      have er := gf_er m i a hG'.1 e
      rw [ea] at er
      have hGe : gf_G (m.eraseIdx i) := by rw [er]; exact gf_Gf hG' _
      have hSe : gf_S (m.eraseIdx i) := by rw [er]; exact List.Pairwise.filter _ hS
      have hne : gf_h (m.eraseIdx i) q = false := by
        rw [er]
        exact gf_h_f (fun b hb => hn b (List.mem_filter.mp hb).1)
      have hle := gf_el e
      have pn := gf_put_n a.2 hne (by omega)
      refine xst hGe ⟨m.eraseIdx i, P', V', rfl, hX', hSe, List.Perm.refl _⟩ hq ?_
      intro u' hu
      refine h0 hhp hhq u' ?_
      rw [pn.1] at hu
      obtain ⟨k, P2, V2, rfl, g1, g2, g3⟩ := hu
      refine ⟨k, P2, V2, rfl, g1, g2, g3.trans ?_⟩
      have pm := gf_mvp q m a hG'.1 (gf_mem e)
      rw [ea] at pm
      rw [er]
      exact pm.symm.trans (hm.map _)
  · intro hn
    exact br_f (by decide) (h2 (gf_h_f hn))
theorem ymv {post : Int32 → SY → Prop} {l : List (Nat × Int32)} {u : SY} {p q : Nat} (hG : gf_G l) (hA : gf_AY l u) (hp : p < 1024) (hq : q < 1024) (h2 : gf_h l p = false → post (-2) u) (h3 : gf_h l p = true → gf_h l q = true → post (-3) u) (h0 : gf_h l p = true → gf_h l q = false → ∀ u', gf_AY (l.map (gf_mv p q)) u' → post 0 u') : wpY_move post u (nI p) (nI q) := by
  obtain ⟨m, A, B, C, rfl, hY, hm⟩ := hA
  have hG' := gf_Gp hm.symm hG
  have hl := hG'.2.2
  have ep : 32 * (p / 32) + p % 32 = p := by omega
  have eq : 32 * (q / 32) + q % 32 = q := by omega
  rw [← gf_h_p hm] at h2 h3 h0
  rw [← gf_h_p hm] at h3 h0
  unfold wpY_move
  dsimp only
  rw [gf_rem hp, gf_rem hq, gf_div hp, gf_div hq]
  refine yp_t hp (br_t rfl (yp_t hq (br_t rfl ⟨by decide, by decide, yfq hY hG' (by omega) (by omega) ?_ ?_⟩)))
  · intro i a e ea
    rw [ep] at ea
    have hi := gf_lt e
    have hhp := gf_h_t (gf_mem e) ea
    refine br_t (nI_pos' (by omega)) ⟨by decide, by decide, yfq hY hG' (by omega) (by omega) ?_ ?_⟩
    · intro j b eb hb
      rw [eq] at hb
      have hj := gf_lt eb
      exact br_f (nI_pos (by omega)) (h3 hhp (gf_h_t (gf_mem eb) hb))
    · intro hn
      rw [eq] at hn
      have hhq := gf_h_f hn
      have vi : vp_in (nI i) 40 := vp_in_nI (by omega) (by omega)
      refine br_t (by decide) ⟨by decide, vi, nm_e ⟨by decide, vi, nm_e ?_⟩⟩
      rw [nI_clamp (by omega)]
      refine h0 hhp hhq _ ⟨m.map (gf_mv p q), _, _, _, by rw [List.length_map], ?_, hm.map _⟩
      intro j b eb
      rw [List.getElem?_map, Option.map_eq_some_iff] at eb
      obtain ⟨c, ec, rfl⟩ := eb
      have hc := hY j c ec
      by_cases z : j = i
      · subst z
        cases Option.some.inj (e.symm.trans ec)
        rw [pk_us, pk_us, show gf_mv p q a = (q, a.2) from if_pos ea]
        exact ⟨rfl, rfl, hc.2.2⟩
      · have hne : ¬ c.1 = p := fun y => z (gf_Du hG'.1 ec e (y.trans ea.symm))
        rw [pk_un z, pk_un z, show gf_mv p q c = c from if_neg hne]
        exact hc
  · intro hn
    rw [ep] at hn
    exact br_f (by decide) (h2 (gf_h_f hn))
theorem xmv_f {post : Int32 → SX → Prop} {u : SX} {x y : Int32} (hc : ¬ (gf_P x ∧ gf_P y)) (h : post (-1) u) : wpX_move post u x y := by
  obtain ⟨f, P, V⟩ := u
  unfold wpX_move
  dsimp only
  by_cases hx : gf_P x
  · have hy := gf_n0 hc hx
    obtain ⟨a, ha, rfl⟩ := hx
    exact xp_t ha (br_f (by decide) (xp_f hy (br_t rfl h)))
  · exact xp_f hx (br_t rfl h)
theorem ymv_f {post : Int32 → SY → Prop} {u : SY} {x y : Int32} (hc : ¬ (gf_P x ∧ gf_P y)) (h : post (-1) u) : wpY_move post u x y := by
  obtain ⟨f, A, B, C⟩ := u
  unfold wpY_move
  dsimp only
  by_cases hx : gf_P x
  · have hy := gf_n0 hc hx
    obtain ⟨a, ha, rfl⟩ := hx
    exact yp_t ha (br_t rfl (yp_f hy (br_f (by decide) h)))
  · exact yp_f hx (br_f (by decide) h)
/-- the points outside of a rectangle -/
def gf_out (lo hi : Nat) (a : Nat × Int32) : Bool := !gf_in lo hi a.1
def gf_ins (lo hi : Nat) (a : Nat × Int32) : Bool := gf_in lo hi a.1
theorem gf_out_t {lo hi : Nat} {a : Nat × Int32} (h : gf_in lo hi a.1 = false) : gf_out lo hi a = true := by unfold gf_out; rw [h]; rfl
theorem gf_out_f {lo hi : Nat} {a : Nat × Int32} (h : gf_in lo hi a.1 = true) : gf_out lo hi a = false := by unfold gf_out; rw [h]; rfl
theorem gf_len (lo hi : Nat) : ∀ l : List (Nat × Int32), l.length = l.countP (gf_ins lo hi) + (l.filter (gf_out lo hi)).length
  | [] => rfl
  | a :: t => by
    have ih := gf_len lo hi t
    by_cases h : gf_in lo hi a.1 = true
    · rw [List.countP_cons_of_pos (p := gf_ins lo hi) h, List.filter_cons_of_neg (by rw [gf_out_f h]; decide), List.length_cons]
      omega
    · rw [Bool.not_eq_true] at h
      rw [List.countP_cons_of_neg (by unfold gf_ins; rw [h]; decide), List.filter_cons_of_pos (gf_out_t h), List.length_cons, List.length_cons]
      omega
theorem gf_tk {l : List (Nat × Int32)} {i : Nat} {a : Nat × Int32} (e : l[i]? = some a) : l.take (i + 1) = l.take i ++ [a] := by
  rw [List.take_add_one, e]; rfl
theorem xcl {post : Int32 → SX → Prop} {l : List (Nat × Int32)} {u : SX} {lo hi : Nat} (hG : gf_G l) (hA : gf_AX l u) (hlo : lo < 1024) (hhi : hi < 1024) (r1 : lo / 32 ≤ hi / 32) (r2 : lo % 32 ≤ hi % 32) (h : ∀ u', gf_AX (l.filter (gf_out lo hi)) u' → post (nI (l.countP (gf_ins lo hi))) u') : wpX_clear post u (nI lo) (nI hi) := by
  obtain ⟨m, P, V, rfl, hX, hS, hm⟩ := hA
  have hG' := gf_Gp hm.symm hG
  have hl := hG'.2.2
  have key : ∀ d i F P' V', i + d = m.length → F = (m.take i).filter (gf_out lo hi) → gf_X F P' V' → (∀ t, i ≤ t → P' t = P t ∧ V' t = V t) → wX_clear_21 post (nI lo) (nI hi) (nI m.length) (nI m.length) (d + 1) (nI F.length) (nI i) P' V' := by
    intro d
    induction d with
    | zero =>
      intro i F P' V' hid hF hX' hK
      refine br_t (nI_le (by omega) (by omega)) ?_
      rw [List.take_of_length_le (by omega)] at hF
      have hc := gf_len lo hi m
      rw [← hF] at hc
      rw [pk_sub (by omega), show m.length - F.length = m.countP (gf_ins lo hi) by omega, hm.countP_eq]
      refine h _ ⟨F, P', V', rfl, hX', ?_, ?_⟩
      · rw [hF]; exact List.Pairwise.filter _ hS
      · rw [hF]; exact hm.filter _
    | succ d ih =>
      intro i F P' V' hid hF hX' hK
      have e : m[i]? = some m[i] := List.getElem?_eq_getElem (by omega)
      have hb := hG'.2.1 _ (gf_mem e)
      have tk := gf_tk e
      have hFl : F.length ≤ i := by
        rw [hF]
        exact Nat.le_trans (List.length_filter_le _ _) (List.length_take_le _ _)
      have vi : vp_in (nI i) 40 := vp_in_nI (by omega) (by omega)
      have vk : vp_in (nI F.length) 40 := vp_in_nI (by omega) (by omega)
      have hPi := hX i _ e
      refine br_f (nI_ge (by omega) (by omega)) ?_
      rw [nI_clamp (n := i) (by omega), nI_clamp (n := F.length) (by omega)]
      refine ⟨vi, xi (by rw [(hK i (Nat.le_refl i)).1]; exact hPi.1) hb hlo hhi (fun z => br_f (by decide) (nm_r (nI_1 i) (ih (i + 1) F P' V' (by omega) ?_ hX' (fun t ht => hK t (by omega))))) (fun z => br_t rfl ⟨vi, vk, nm_e ⟨vi, vk, nm_e (nm_r (nI_1 F.length) (nm_r (nI_1 i) ?_))⟩⟩)⟩
      · rw [tk, List.filter_append, ← hF, List.filter_cons_of_neg (by rw [gf_out_f z]; decide), List.filter_nil, List.append_nil]
      · have hh := ih (i + 1) (F ++ [m[i]]) (upd P' F.length (P' i)) (upd V' F.length (V' i)) (by omega) ?_ ?_ ?_
        · rw [List.length_append, List.length_singleton] at hh
          exact hh
        · rw [tk, List.filter_append, ← hF, List.filter_cons_of_pos (gf_out_t z), List.filter_nil]
        · intro j b eb
          rw [List.getElem?_append] at eb
          by_cases w : j < F.length
          · rw [if_pos w] at eb
            rw [pk_un (by omega), pk_un (by omega)]
            exact hX' j b eb
          · rw [if_neg w] at eb
            have := gf_lt eb
            rw [List.length_singleton] at this
            have ej : j = F.length := by omega
            subst ej
            rw [Nat.sub_self, List.getElem?_cons_zero] at eb
            cases eb
            rw [pk_us, pk_us, (hK i (Nat.le_refl i)).1, (hK i (Nat.le_refl i)).2]
            exact hPi
        · intro t ht
          rw [pk_un (by omega), pk_un (by omega)]
          exact hK t (by omega)
  unfold wpX_clear
  dsimp only
  exact xr_t hlo hhi r1 r2 (br_f (by decide) ⟨m.length + 1, key m.length 0 [] P V (by omega) rfl (fun i a e => by rw [List.getElem?_nil] at e; cases e) (fun t _ => ⟨rfl, rfl⟩)⟩)
theorem ycl_loop {post : Int32 → SY → Prop} {lo hi : Nat} (hlo : lo < 1024) (hhi : hi < 1024) : ∀ (k : Nat) (l : List (Nat × Int32)) (n : Nat) (A B C : Nat → Int32), k ≤ 40 → gf_G l → gf_Y l A B C → (∀ R A' B' C', R = (l.take k).filter (gf_out lo hi) ++ l.drop k → gf_Y R A' B' C' → post (nI (n + (l.take k).countP (gf_ins lo hi))) (nI R.length, A', B', C')) → wY_clear_17 post (nI lo) (nI hi) (k + 1) (nI n) (nI k + (-1)) (nI l.length) A B C := by
  intro k
  induction k with
  | zero =>
    intro l n A B C _ hG hY h
    exact br_t (by decide) (h l A B C rfl hY)
  | succ k ih =>
    intro l n A B C hk hG hY h
    have hl := hG.2.2
    rw [pk_m1]
    refine br_f (nI_pos (by omega)) (pk_le l.length k (fun z => nm_e (ih l n A B C (by omega) hG hY ?_)) (fun z => ?_))
    · rw [List.take_of_length_le (by omega), List.drop_eq_nil_of_le (by omega)] at h ⊢
      exact h
    · have e : l[k]? = some l[k] := List.getElem?_eq_getElem z
      have tk := gf_tk e
      refine yi hY hG e hlo hhi (fun y => br_f (by decide) (yto hY hl e ?_)) (fun y => br_t rfl (nm_e (ih l n A B C (by omega) hG hY ?_)))
      · intro A' B' C' hY'
        have er := gf_er l k _ hG.1 e
        have hGe : gf_G (l.eraseIdx k) := by rw [er]; exact gf_Gf hG _
        refine nm_r (nI_1 n) (nm_e (ih (l.eraseIdx k) (n + 1) A' B' C' (by omega) hGe hY' ?_))
        have ht : (l.take k).length = k := by rw [List.length_take]; omega
        have e1 : (l.eraseIdx k).take k = l.take k := by
          rw [List.eraseIdx_eq_take_drop_succ, List.take_left' ht]
        have e2 : (l.eraseIdx k).drop k = l.drop (k + 1) := by
          rw [List.eraseIdx_eq_take_drop_succ, List.drop_left' ht]
        rw [e1, e2]
        intro R A2 B2 C2 hR hY2
        have hh := h R A2 B2 C2 (by rw [hR, tk, List.filter_append, List.filter_cons_of_neg (by rw [gf_out_f y]; decide), List.filter_nil, List.append_nil]) hY2
        rw [tk, List.countP_append, List.countP_cons_of_pos (p := gf_ins lo hi) y, List.countP_nil] at hh
        rw [show n + 1 + (l.take k).countP (gf_ins lo hi) = n + ((l.take k).countP (gf_ins lo hi) + (0 + 1)) by omega]
        exact hh
      · intro R A2 B2 C2 hR hY2
        have hh := h R A2 B2 C2 (by rw [hR, tk, List.filter_append, List.filter_cons_of_pos (gf_out_t y), List.filter_nil, List.append_assoc, List.drop_eq_getElem_cons z]; rfl) hY2
        rw [tk, List.countP_append, List.countP_cons_of_neg (p := gf_ins lo hi) (by unfold gf_ins; rw [y]; decide), List.countP_nil] at hh
        exact hh
theorem ycl {post : Int32 → SY → Prop} {l : List (Nat × Int32)} {u : SY} {lo hi : Nat} (hG : gf_G l) (hA : gf_AY l u) (hlo : lo < 1024) (hhi : hi < 1024) (r1 : lo / 32 ≤ hi / 32) (r2 : lo % 32 ≤ hi % 32) (h : ∀ u', gf_AY (l.filter (gf_out lo hi)) u' → post (nI (l.countP (gf_ins lo hi))) u') : wpY_clear post u (nI lo) (nI hi) := by
  obtain ⟨m, A, B, C, rfl, hY, hm⟩ := hA
  have hG' := gf_Gp hm.symm hG
  have hl := hG'.2.2
  unfold wpY_clear
  dsimp only
  refine yr_t hlo hhi r1 r2 (br_t rfl ⟨41, ?_⟩)
  have hh := ycl_loop (post := post) hlo hhi 40 m 0 A B C (Nat.le_refl _) hG' hY ?_
  · exact hh
  · rw [List.take_of_length_le hl, List.drop_eq_nil_of_le hl, hm.countP_eq, Nat.zero_add]
    intro R A' B' C' hR hY'
    rw [List.append_nil] at hR
    exact h _ ⟨R, A', B', C', rfl, hY', by rw [hR]; exact hm.filter _⟩
theorem xcl_f {post : Int32 → SX → Prop} {u : SX} {x y : Int32} (hc : ¬ gf_R x y) (h : post (-1) u) : wpX_clear post u x y := by
  obtain ⟨f, P, V⟩ := u
  unfold wpX_clear
  dsimp only
  exact xr_f hc (br_t rfl h)
theorem ycl_f {post : Int32 → SY → Prop} {u : SY} {x y : Int32} (hc : ¬ gf_R x y) (h : post (-1) u) : wpY_clear post u x y := by
  obtain ⟨f, A, B, C⟩ := u
  unfold wpY_clear
  dsimp only
  exact yr_f hc (br_f (by decide) h)
/-! scatter -/
def gf_sc (g : Nat → Nat) (w : Nat → Int32) : Nat → Nat → List (Nat × Int32) → List (Nat × Int32)
  | 0, _, l => l
  | d + 1, k, l => gf_sc g w d (k + 1) (gf_put l (g k) (w k))
theorem gf_sc_G {g : Nat → Nat} {w : Nat → Int32} (hg : ∀ k, g k < 1024) : ∀ (d k : Nat) (l : List (Nat × Int32)), gf_G l → gf_G (gf_sc g w d k l)
  | 0, _, _, h => h
  | d + 1, k, l, h => gf_sc_G hg d (k + 1) _ (gf_put_G h (hg k) _)
def gf_gx (x1 x4 : Int32) (k : Nat) : Nat := ((x1 / 32) + (nI k * x4)).toBitVec.toNat % 2 ^ 5
def gf_gy (x1 x5 : Int32) (k : Nat) : Nat := ((x1 - x1 / 32 * 32) + (nI k * x5)).toBitVec.toNat % 2 ^ 5
def gf_g (x1 x4 x5 : Int32) (k : Nat) : Nat := 32 * gf_gx x1 x4 k + gf_gy x1 x5 k
theorem gf_gx_lt (x1 x4 : Int32) (k : Nat) : gf_gx x1 x4 k < 32 := Nat.mod_lt _ (by decide)
theorem gf_gy_lt (x1 x4 : Int32) (k : Nat) : gf_gy x1 x4 k < 32 := Nat.mod_lt _ (by decide)
theorem gf_g_lt (x1 x4 x5 : Int32) (k : Nat) : gf_g x1 x4 x5 k < 1024 := by
  have h1 := gf_gx_lt x1 x4 k
  have h2 := gf_gy_lt x1 x5 k
  unfold gf_g
  omega
theorem gf_gx_e (x1 x4 : Int32) (k : Nat) : ((x1 / 32) + (nI k * x4)) &&& 31 = nI (gf_gx x1 x4 k) := pk_and _ 5 (by decide)
theorem gf_gy_e (x1 x5 : Int32) (k : Nat) : ((x1 - x1 / 32 * 32) + (nI k * x5)) &&& 31 = nI (gf_gy x1 x5 k) := pk_and _ 5 (by decide)
theorem xsc_loop {post : Int32 → SX → Prop} {x1 x3 x4 x5 : Int32} {m : Nat} (hm : m ≤ 40) : ∀ (d k : Nat) (l : List (Nat × Int32)) (f : Int32) (P V : Nat → Int32), k + d = m → gf_G l → gf_AX l (f, P, V) → (∀ u', gf_AX (gf_sc (gf_g x1 x4 x5) (fun k => x3 + nI k) d k l) u' → post (nI (gf_sc (gf_g x1 x4 x5) (fun k => x3 + nI k) d k l).length) u') → wX_scatter_50 post x1 x3 x4 x5 (nI m) (d + 1) (nI k) f P V := by
  intro d
  induction d with
  | zero =>
    intro k l f P V hk hG hA h
    refine br_t (nI_le (by omega) (by omega)) ?_
    have hh := h _ hA
    obtain ⟨lx, P', V', e, hX, hS, hp⟩ := hA
    have ef : f = nI l.length := by rw [← hp.length_eq]; exact congrArg Prod.fst e
    rw [show gf_sc (gf_g x1 x4 x5) (fun k => x3 + nI k) 0 k l = l from rfl, ← ef] at hh
    exact hh
  | succ d ih =>
    intro k l f P V hk hG hA h
    refine br_f (nI_ge (by omega) (by omega)) ⟨by decide, ?_⟩
    unfold wpX_wrapped
    refine ⟨by decide, ?_⟩
    rw [gf_gx_e, gf_gy_e]
    dsimp only
    rw [gf_pl]
    refine xst hG hA (gf_g_lt x1 x4 x5 k) ?_
    intro u' hu
    obtain ⟨f', P', V'⟩ := u'
    exact nm_r (nI_1 k) (ih (k + 1) _ f' P' V' (by omega) (gf_put_G hG (gf_g_lt x1 x4 x5 k) _) hu h)
theorem ysc_loop {post : Int32 → SY → Prop} {x1 x3 x4 x5 : Int32} {m : Nat} (hm : m ≤ 40) : ∀ (d k : Nat) (l : List (Nat × Int32)) (f : Int32) (A B C : Nat → Int32), k + d = m → gf_G l → gf_AY l (f, A, B, C) → (∀ u', gf_AY (gf_sc (gf_g x1 x4 x5) (fun k => x3 + nI k) d k l) u' → post (nI (gf_sc (gf_g x1 x4 x5) (fun k => x3 + nI k) d k l).length) u') → wY_scatter_86 post x1 x3 (nI m) x4 x5 (d + 1) (nI k) f A B C := by
  intro d
  induction d with
  | zero =>
    intro k l f A B C hk hG hA h
    refine br_t (nI_le (by omega) (by omega)) ?_
    have hh := h _ hA
    obtain ⟨lx, A', B', C', e, hX, hp⟩ := hA
    have ef : f = nI l.length := by rw [← hp.length_eq]; exact congrArg Prod.fst e
    rw [show gf_sc (gf_g x1 x4 x5) (fun k => x3 + nI k) 0 k l = l from rfl, ← ef] at hh
    exact hh
  | succ d ih =>
    intro k l f A B C hk hG hA h
    refine br_f (nI_ge (by omega) (by omega)) ⟨by decide, nm_r (gf_gx_e x1 x4 k) ⟨by decide, nm_r (gf_gy_e x1 x5 k) ?_⟩⟩
    refine yput hG hA (gf_gx_lt x1 x4 k) (gf_gy_lt x1 x5 k) ?_
    intro u' hu
    obtain ⟨f', A', B', C'⟩ := u'
    exact nm_r (nI_1 k) (ih (k + 1) _ f' A' B' C' (by omega) (gf_put_G hG (gf_g_lt x1 x4 x5 k) _) hu h)
def gf_W (w : Int32) : Prop := ¬ w < 0 ∧ ¬ 62 < w / 4096 ∧ ¬ 62 < (w / 64) - (w / 64) / 64 * 64 ∧ ¬ w - w / 64 * 64 < 1 ∧ ¬ 40 < w - w / 64 * 64
theorem gf_W_m {w : Int32} (h : gf_W w) : ∃ m : Nat, m ≤ 40 ∧ w - w / 64 * 64 = nI m := by
  obtain ⟨_, _, _, h1, h2⟩ := h
  generalize w - w / 64 * 64 = s at h1 h2
  have h0 : ¬ s < 0 := fun z => h1 (Int32.lt_trans z (by decide))
  exact nI_of2 (M := 40) (n := 40) (by decide) h0 (Int32.not_lt.mp h2)
theorem xw_t {post : Int32 → Prop} {w : Int32} (h : gf_W w) (hp : post 1) : wpX_isWalk post w := by
  obtain ⟨h0, h1, h2, h3, h4⟩ := h
  exact br_t (Int32.not_lt.mp h0) ⟨by decide, nm_e ⟨by decide, br_f h1 ⟨by decide, by decide, br_f h2 (br_f h3 (br_f h4 hp))⟩⟩⟩
theorem xw_f {post : Int32 → Prop} {w : Int32} (h : ¬ gf_W w) (hp : post 0) : wpX_isWalk post w := by
  by_cases h0 : w < 0
  · exact br_f (Int32.not_le.mpr h0) hp
  · exact br_t (Int32.not_lt.mp h0) ⟨by decide, nm_e ⟨by decide, br_c (fun _ => hp) (fun h1 => ⟨by decide, by decide, br_c (fun _ => hp) (fun h2 => br_c (fun _ => hp) (fun h3 => br_c (fun _ => hp) (fun h4 => absurd ⟨h0, h1, h2, h3, h4⟩ h)))⟩)⟩⟩
theorem xsc {post : Int32 → SX → Prop} {l : List (Nat × Int32)} {u : SX} {p m : Nat} {w x3 : Int32} (hG : gf_G l) (hA : gf_AX l u) (hp : p < 1024) (hw : gf_W w) (hm : m ≤ 40) (em : w - w / 64 * 64 = nI m) (h : ∀ u', gf_AX (gf_sc (gf_g (nI p) ((w / 4096) - 31) (((w / 64) - (w / 64) / 64 * 64) - 31)) (fun k => x3 + nI k) m 0 l) u' → post (nI (gf_sc (gf_g (nI p) ((w / 4096) - 31) (((w / 64) - (w / 64) / 64 * 64) - 31)) (fun k => x3 + nI k) m 0 l).length) u') : wpX_scatter post u (nI p) w x3 := by
  obtain ⟨f, P, V⟩ := u
  unfold wpX_scatter
  dsimp only
  refine xp_t hp (br_f (by decide) (xw_t hw (br_f (by decide) ⟨by decide, nm_e ⟨by decide, by decide, nm_e ⟨by decide, nm_r em ⟨m + 1, ?_⟩⟩⟩⟩)))
  exact xsc_loop hm m 0 l f P V (by omega) hG hA h
theorem ysc {post : Int32 → SY → Prop} {l : List (Nat × Int32)} {u : SY} {p m : Nat} {w x3 : Int32} (hG : gf_G l) (hA : gf_AY l u) (hp : p < 1024) (hw : gf_W w) (hm : m ≤ 40) (em : w - w / 64 * 64 = nI m) (h : ∀ u', gf_AY (gf_sc (gf_g (nI p) ((w / 4096) - 31) (((w / 64) - (w / 64) / 64 * 64) - 31)) (fun k => x3 + nI k) m 0 l) u' → post (nI (gf_sc (gf_g (nI p) ((w / 4096) - 31) (((w / 64) - (w / 64) / 64 * 64) - 31)) (fun k => x3 + nI k) m 0 l).length) u') : wpY_scatter post u (nI p) w x3 := by
  obtain ⟨f, A, B, C⟩ := u
  obtain ⟨h0, h1, h2, h3, h4⟩ := hw
  unfold wpY_scatter
  dsimp only
  refine yp_t hp (br_t rfl (br_f h0 ⟨by decide, br_f h1 ⟨by decide, by decide, br_t (Int32.not_lt.mp h2) ⟨by decide, nm_e (br_f h3 (br_t (Int32.not_lt.mp h4) ⟨by decide, nm_e ⟨by decide, by decide, nm_e ⟨m + 1, ?_⟩⟩⟩))⟩⟩⟩))
  rw [em]
  exact ysc_loop hm m 0 l f A B C (by omega) hG hA h
theorem xsc_f1 {post : Int32 → SX → Prop} {u : SX} {x w x3 : Int32} (hc : ¬ gf_P x) (h : post (-1) u) : wpX_scatter post u x w x3 := by
  obtain ⟨f, P, V⟩ := u
  unfold wpX_scatter
  dsimp only
  exact xp_f hc (br_t rfl h)
theorem ysc_f1 {post : Int32 → SY → Prop} {u : SY} {x w x3 : Int32} (hc : ¬ gf_P x) (h : post (-1) u) : wpY_scatter post u x w x3 := by
  obtain ⟨f, A, B, C⟩ := u
  unfold wpY_scatter
  dsimp only
  exact yp_f hc (br_f (by decide) h)
theorem xsc_f2 {post : Int32 → SX → Prop} {u : SX} {p : Nat} {w x3 : Int32} (hp : p < 1024) (hc : ¬ gf_W w) (h : post (-2) u) : wpX_scatter post u (nI p) w x3 := by
  obtain ⟨f, P, V⟩ := u
  unfold wpX_scatter
  dsimp only
  exact xp_t hp (br_f (by decide) (xw_f hc (br_t rfl h)))
theorem ysc_f2 {post : Int32 → SY → Prop} {u : SY} {p : Nat} {w x3 : Int32} (hp : p < 1024) (hc : ¬ gf_W w) (h : post (-2) u) : wpY_scatter post u (nI p) w x3 := by
  obtain ⟨f, A, B, C⟩ := u
  unfold wpY_scatter
  dsimp only
  exact yp_t hp (br_t rfl (br_c (fun _ => h) (fun h0 => ⟨by decide, br_c (fun _ => h) (fun h1 => ⟨by decide, by decide, br_c (fun h2 => ⟨by decide, nm_e (br_c (fun _ => h) (fun h3 => br_c (fun h4 => absurd ⟨h0, h1, Int32.not_lt.mpr h2, h3, Int32.not_lt.mpr h4⟩ hc) (fun _ => h)))⟩) (fun _ => h)⟩)⟩)))
end
section
/-! size, has, valueAt, count, sum, most, within, line -/
theorem gf_AXl {l : List (Nat × Int32)} {m : List (Nat × Int32)} (h : m.Perm l) : nI m.length = nI l.length := by rw [h.length_eq]
theorem xsz {post : Int32 → Prop} {l : List (Nat × Int32)} {u : SX} (hA : gf_AX l u) (h : post (nI l.length)) : wpX_size post u := by
  obtain ⟨m, P, V, rfl, hX, hS, hm⟩ := hA
  unfold wpX_size
  dsimp only
  rw [hm.length_eq]
  exact h
theorem ysz {post : Int32 → Prop} {l : List (Nat × Int32)} {u : SY} (hA : gf_AY l u) (h : post (nI l.length)) : wpY_size post u := by
  obtain ⟨m, A, B, C, rfl, hY, hm⟩ := hA
  unfold wpY_size
  dsimp only
  rw [hm.length_eq]
  exact h
theorem xha {post : Int32 → Prop} {l : List (Nat × Int32)} {u : SX} {x y : Nat} (hG : gf_G l) (hA : gf_AX l u) (hx : x < 32) (hy : y < 32) (h1 : gf_h l (32 * x + y) = true → post 1) (h0 : gf_h l (32 * x + y) = false → post 0) : wpX_has post u (nI x) (nI y) := by
  obtain ⟨m, P, V, rfl, hX, hS, hm⟩ := hA
  have hG' := gf_Gp hm.symm hG
  have hl := hG'.2.2
  rw [← gf_h_p hm] at h1 h0
  unfold wpX_has
  dsimp only
  refine xg_t hx hy (br_f (by decide) ?_)
  rw [gf_pl]
  refine xs hX hG' (by omega) ?_ ?_
  · intro i a e ea
    have hi := gf_lt e
    exact br_f (nI_pos (by omega)) (h1 (gf_h_t (gf_mem e) ea))
  · intro hn
    exact br_t (by decide) (h0 (gf_h_f hn))
theorem yha {post : Int32 → Prop} {l : List (Nat × Int32)} {u : SY} {x y : Nat} (hG : gf_G l) (hA : gf_AY l u) (hx : x < 32) (hy : y < 32) (h1 : gf_h l (32 * x + y) = true → post 1) (h0 : gf_h l (32 * x + y) = false → post 0) : wpY_has post u (nI x) (nI y) := by
  obtain ⟨m, A, B, C, rfl, hY, hm⟩ := hA
  have hG' := gf_Gp hm.symm hG
  have hl := hG'.2.2
  rw [← gf_h_p hm] at h1 h0
  unfold wpY_has
  dsimp only
  refine yb_t hx (br_t rfl (yb_t hy (br_t rfl (yfq hY hG' hx hy ?_ ?_))))
  · intro i a e ea
    have hi := gf_lt e
    exact br_f (nI_pos (by omega)) (h1 (gf_h_t (gf_mem e) ea))
  · intro hn
    exact br_t (by decide) (h0 (gf_h_f hn))
theorem xha_f {post : Int32 → Prop} {u : SX} {x y : Int32} (hc : ¬ (gf_C x ∧ gf_C y)) (h : post (-1)) : wpX_has post u x y := by
  obtain ⟨f, P, V⟩ := u
  unfold wpX_has
  dsimp only
  exact xg_f hc (br_t rfl h)
theorem yha_f {post : Int32 → Prop} {u : SY} {x y : Int32} (hc : ¬ (gf_C x ∧ gf_C y)) (h : post (-1)) : wpY_has post u x y := by
  obtain ⟨f, A, B, C⟩ := u
  unfold wpY_has
  dsimp only
  by_cases hx : gf_C x
  · have hy := gf_n0 hc hx
    obtain ⟨a, ha, rfl⟩ := hx
    exact yb_t ha (br_t rfl (yb_f hy (br_f (by decide) h)))
  · exact yb_f hx (br_f (by decide) h)
theorem xva {post : Int32 → Prop} {l : List (Nat × Int32)} {u : SX} {x y : Nat} (hG : gf_G l) (hA : gf_AX l u) (hx : x < 32) (hy : y < 32) (h1 : ∀ a ∈ l, a.1 = 32 * x + y → post a.2) (h0 : gf_h l (32 * x + y) = false → post 0) : wpX_valueAt post u (nI x) (nI y) := by
  obtain ⟨m, P, V, rfl, hX, hS, hm⟩ := hA
  have hG' := gf_Gp hm.symm hG
  have hl := hG'.2.2
  rw [← gf_h_p hm] at h0
  unfold wpX_valueAt
  dsimp only
  refine xg_t hx hy (br_f (by decide) ?_)
  rw [gf_pl]
  refine xs hX hG' (by omega) ?_ ?_
  · intro i a e ea
    have hi := gf_lt e
    refine br_f (nI_pos (by omega)) ⟨vp_in_nI (by omega) (by omega), ?_⟩
    rw [(gf_Xc hX hl e).2]
    exact h1 a (hm.mem_iff.mp (gf_mem e)) ea
  · intro hn
    exact br_t (by decide) (h0 (gf_h_f hn))
theorem yva {post : Int32 → Prop} {l : List (Nat × Int32)} {u : SY} {x y : Nat} (hG : gf_G l) (hA : gf_AY l u) (hx : x < 32) (hy : y < 32) (h1 : ∀ a ∈ l, a.1 = 32 * x + y → post a.2) (h0 : gf_h l (32 * x + y) = false → post 0) : wpY_valueAt post u (nI x) (nI y) := by
  obtain ⟨m, A, B, C, rfl, hY, hm⟩ := hA
  have hG' := gf_Gp hm.symm hG
  have hl := hG'.2.2
  rw [← gf_h_p hm] at h0
  unfold wpY_valueAt
  dsimp only
  refine yfq hY hG' hx hy ?_ ?_
  · intro i a e ea
    have hi := gf_lt e
    refine br_t (nI_pos' (by omega)) ⟨vp_in_nI (by omega) (by omega), ?_⟩
    rw [(gf_Yc hY hl e).2.2]
    exact h1 a (hm.mem_iff.mp (gf_mem e)) ea
  · intro hn
    exact br_f (by decide) (h0 (gf_h_f hn))
theorem xva_f {post : Int32 → Prop} {u : SX} {x y : Int32} (hc : ¬ (gf_C x ∧ gf_C y)) (h : post 0) : wpX_valueAt post u x y := by
  obtain ⟨f, P, V⟩ := u
  unfold wpX_valueAt
  dsimp only
  exact xg_f hc (br_t rfl h)
theorem yva_f {post : Int32 → Prop} {l : List (Nat × Int32)} {u : SY} {x y : Int32} (hG : gf_G l) (hA : gf_AY l u) (hc : ¬ (gf_C x ∧ gf_C y)) (h : post 0) : wpY_valueAt post u x y := by
  obtain ⟨m, A, B, C, rfl, hY, hm⟩ := hA
  have hG' := gf_Gp hm.symm hG
  unfold wpY_valueAt
  dsimp only
  refine yf hY hG' ?_ ?_
  · intro i a e h1 h2
    have := hG'.2.1 a (gf_mem e)
    exact absurd ⟨⟨a.1 / 32, by omega, h1.symm⟩, ⟨a.1 % 32, by omega, h2.symm⟩⟩ hc
  · intro _
    exact br_f (by decide) h
theorem xct {post : Int32 → Prop} {l : List (Nat × Int32)} {u : SX} {lo hi : Nat} (hG : gf_G l) (hA : gf_AX l u) (hlo : lo < 1024) (hhi : hi < 1024) (r1 : lo / 32 ≤ hi / 32) (r2 : lo % 32 ≤ hi % 32) (h : post (nI (l.countP (gf_ins lo hi)))) : wpX_count post u (nI lo) (nI hi) := by
  obtain ⟨m, P, V, rfl, hX, hS, hm⟩ := hA
  have hG' := gf_Gp hm.symm hG
  have hl := hG'.2.2
  rw [← hm.countP_eq] at h
  unfold wpX_count
  dsimp only
  refine xr_t hlo hhi r1 r2 (br_f (by decide) ?_)
  refine gf_count (fun n s i => wX_count_15 post (nI lo) (nI hi) (nI m.length) P V n (nI s) (nI i)) m (gf_ins lo hi) (fun s => post (nI s)) ?_ ?_ h
  · intro n s hp
    exact br_t (nI_le (Nat.le_refl _) (by omega)) hp
  · intro n s i a e h1 h0
    have hlt := gf_lt e
    exact br_f (nI_ge (by omega) (by omega)) ⟨vp_in_nI (by omega) (by omega), xi (gf_Xc hX hl e).1 (hG'.2.1 a (gf_mem e)) hlo hhi (fun z => br_f (by decide) (nm_r (nI_1 s) (nm_r (nI_1 i) (h1 z)))) (fun z => br_t rfl (nm_r (nI_1 i) (h0 z)))⟩
theorem yct {post : Int32 → Prop} {l : List (Nat × Int32)} {u : SY} {lo hi : Nat} (hG : gf_G l) (hA : gf_AY l u) (hlo : lo < 1024) (hhi : hi < 1024) (r1 : lo / 32 ≤ hi / 32) (r2 : lo % 32 ≤ hi % 32) (h : post (nI (l.countP (gf_ins lo hi)))) : wpY_count post u (nI lo) (nI hi) := by
  obtain ⟨m, A, B, C, rfl, hY, hm⟩ := hA
  have hG' := gf_Gp hm.symm hG
  have hl := hG'.2.2
  rw [← hm.countP_eq] at h
  unfold wpY_count
  dsimp only
  refine yr_t hlo hhi r1 r2 (br_t rfl ?_)
  refine gf_count (fun n s i => wY_count_16 post (nI lo) (nI hi) (nI m.length) A B C n (nI s) (nI i)) m (gf_ins lo hi) (fun s => post (nI s)) ?_ ?_ h
  · intro n s hp
    exact br_t (nI_le (Nat.le_refl _) (by omega)) hp
  · intro n s i a e h1 h0
    have hlt := gf_lt e
    exact br_f (nI_ge (by omega) (by omega)) (br_f (nI_ge (b := 40) (by omega) (by decide)) (yi hY hG' e hlo hhi (fun z => br_f (by decide) (nm_r (nI_1 s) (nm_r (nI_1 i) (h1 z)))) (fun z => br_t rfl (nm_r (nI_1 i) (h0 z)))))
/-- the sum's step, the greatest's step -/
def gf_su (lo hi : Nat) (s : Int32) (a : Nat × Int32) : Int32 := if gf_in lo hi a.1 = true then s + a.2 else s
def gf_mo (lo hi : Nat) (s : Int32) (a : Nat × Int32) : Int32 := if gf_in lo hi a.1 = true then (if a.2 ≤ s then s else a.2) else s
theorem gf_su_t {lo hi : Nat} {s : Int32} {a : Nat × Int32} (h : gf_in lo hi a.1 = true) : gf_su lo hi s a = s + a.2 := if_pos h
theorem gf_su_f {lo hi : Nat} {s : Int32} {a : Nat × Int32} (h : gf_in lo hi a.1 = false) : gf_su lo hi s a = s := if_neg (by rw [h]; decide)
theorem gf_mo_t {lo hi : Nat} {s : Int32} {a : Nat × Int32} (h : gf_in lo hi a.1 = true) (h2 : a.2 ≤ s) : gf_mo lo hi s a = s := (if_pos h).trans (if_pos h2)
theorem gf_mo_g {lo hi : Nat} {s : Int32} {a : Nat × Int32} (h : gf_in lo hi a.1 = true) (h2 : ¬ a.2 ≤ s) : gf_mo lo hi s a = a.2 := (if_pos h).trans (if_neg h2)
theorem gf_mo_f {lo hi : Nat} {s : Int32} {a : Nat × Int32} (h : gf_in lo hi a.1 = false) : gf_mo lo hi s a = s := if_neg (by rw [h]; decide)
theorem gf_su_p {l m : List (Nat × Int32)} (h : l.Perm m) (lo hi : Nat) (s : Int32) : l.foldl (gf_su lo hi) s = m.foldl (gf_su lo hi) s := by
  refine h.foldl_eq' ?_ s
  intro x _ y _ z
  unfold gf_su
  by_cases h1 : gf_in lo hi x.1 = true
  · by_cases h2 : gf_in lo hi y.1 = true
    · rw [if_pos h1, if_pos h2, if_pos h1, if_pos h2, Int32.add_assoc, Int32.add_assoc, Int32.add_comm x.2]
    · rw [if_pos h1, if_neg h2, if_pos h1, if_neg h2]
  · by_cases h2 : gf_in lo hi y.1 = true
    · rw [if_neg h1, if_pos h2, if_neg h1]
    · rw [if_neg h1, if_neg h2, if_neg h1]
theorem gf_mx (x y z : Int32) : (if y ≤ (if x ≤ z then z else x) then (if x ≤ z then z else x) else y) = (if x ≤ (if y ≤ z then z else y) then (if y ≤ z then z else y) else x) := by
  have e : ∀ a b : Int32, (if a ≤ b then b else a).toInt = (if a.toInt ≤ b.toInt then b.toInt else a.toInt) := by
    intro a b
    by_cases h : a ≤ b
    · rw [if_pos h, if_pos (Int32.le_iff_toInt_le.mp h)]
    · rw [if_neg h, if_neg (fun z => h (Int32.le_iff_toInt_le.mpr z))]
  apply Int32.toInt_inj.mp
  rw [e, e, e, e]
  omega
theorem gf_mo_p {l m : List (Nat × Int32)} (h : l.Perm m) (lo hi : Nat) (s : Int32) : l.foldl (gf_mo lo hi) s = m.foldl (gf_mo lo hi) s := by
  refine h.foldl_eq' ?_ s
  intro x _ y _ z
  unfold gf_mo
  by_cases h1 : gf_in lo hi x.1 = true
  · by_cases h2 : gf_in lo hi y.1 = true
    · rw [if_pos h1, if_pos h2, if_pos h1, if_pos h2]
      exact gf_mx x.2 y.2 z
    · rw [if_pos h1, if_neg h2, if_pos h1, if_neg h2]
  · by_cases h2 : gf_in lo hi y.1 = true
    · rw [if_neg h1, if_pos h2, if_neg h1]
    · rw [if_neg h1, if_neg h2, if_neg h1]
theorem xsu {post : Int32 → Prop} {l : List (Nat × Int32)} {u : SX} {lo hi : Nat} (hG : gf_G l) (hA : gf_AX l u) (hlo : lo < 1024) (hhi : hi < 1024) (r1 : lo / 32 ≤ hi / 32) (r2 : lo % 32 ≤ hi % 32) (h : post (l.foldl (gf_su lo hi) 0)) : wpX_sum post u (nI lo) (nI hi) := by
  obtain ⟨m, P, V, rfl, hX, hS, hm⟩ := hA
  have hG' := gf_Gp hm.symm hG
  have hl := hG'.2.2
  rw [← gf_su_p hm] at h
  unfold wpX_sum
  dsimp only
  refine xr_t hlo hhi r1 r2 (br_f (by decide) ⟨m.length + 1, ?_⟩)
  refine gf_loop (fun n s i => wX_sum_15 post (nI lo) (nI hi) (nI m.length) P V n s (nI i)) m (gf_su lo hi) (fun _ _ => True) post ?_ ?_ (fun _ _ _ _ _ => trivial) 0 trivial h
  · intro n s _ hp
    exact br_t (nI_le (Nat.le_refl _) (by omega)) hp
  · intro n s i a e _ hw
    have hlt := gf_lt e
    have c := gf_Xc hX hl e
    have vi : vp_in (nI i) 40 := vp_in_nI (by omega) (by omega)
    refine br_f (nI_ge (by omega) (by omega)) ⟨vi, xi c.1 (hG'.2.1 a (gf_mem e)) hlo hhi (fun z => br_f (by decide) ⟨vi, nm_r (e' := gf_su lo hi s a) ?_ (nm_r (nI_1 i) hw)⟩) (fun z => br_t rfl (nm_r (nI_1 i) ?_))⟩
    · rw [gf_su_t z, c.2]
    · rw [gf_su_f z] at hw
      exact hw
theorem ysu {post : Int32 → Prop} {l : List (Nat × Int32)} {u : SY} {lo hi : Nat} (hG : gf_G l) (hA : gf_AY l u) (hlo : lo < 1024) (hhi : hi < 1024) (r1 : lo / 32 ≤ hi / 32) (r2 : lo % 32 ≤ hi % 32) (h : post (l.foldl (gf_su lo hi) 0)) : wpY_sum post u (nI lo) (nI hi) := by
  obtain ⟨m, A, B, C, rfl, hY, hm⟩ := hA
  have hG' := gf_Gp hm.symm hG
  have hl := hG'.2.2
  rw [← gf_su_p hm] at h
  unfold wpY_sum
  dsimp only
  refine yr_t hlo hhi r1 r2 (br_t rfl ⟨m.length + 1, ?_⟩)
  refine gf_loop (fun n s i => wY_sum_16 post (nI lo) (nI hi) (nI m.length) A B C n s (nI i)) m (gf_su lo hi) (fun _ _ => True) post ?_ ?_ (fun _ _ _ _ _ => trivial) 0 trivial h
  · intro n s _ hp
    exact br_t (nI_le (Nat.le_refl _) (by omega)) hp
  · intro n s i a e _ hw
    have hlt := gf_lt e
    have c := gf_Yc hY hl e
    have vi : vp_in (nI i) 40 := vp_in_nI (by omega) (by omega)
    refine br_f (nI_ge (by omega) (by omega)) (br_f (nI_ge (b := 40) (by omega) (by decide)) (yi hY hG' e hlo hhi (fun z => br_f (by decide) ⟨vi, nm_r (e' := gf_su lo hi s a) ?_ (nm_r (nI_1 i) hw)⟩) (fun z => br_t rfl (nm_r (nI_1 i) ?_))))
    · rw [gf_su_t z, c.2.2]
    · rw [gf_su_f z] at hw
      exact hw
theorem xmo {post : Int32 → Prop} {l : List (Nat × Int32)} {u : SX} {lo hi : Nat} (hG : gf_G l) (hA : gf_AX l u) (hlo : lo < 1024) (hhi : hi < 1024) (r1 : lo / 32 ≤ hi / 32) (r2 : lo % 32 ≤ hi % 32) (h : post (l.foldl (gf_mo lo hi) (-2147483648))) : wpX_most post u (nI lo) (nI hi) := by
  obtain ⟨m, P, V, rfl, hX, hS, hm⟩ := hA
  have hG' := gf_Gp hm.symm hG
  have hl := hG'.2.2
  rw [← gf_mo_p hm] at h
  unfold wpX_most
  dsimp only
  refine xr_t hlo hhi r1 r2 (br_f (by decide) ⟨m.length + 1, ?_⟩)
  refine gf_loop (fun n s i => wX_most_17 post (nI lo) (nI hi) (nI m.length) P V n s (nI i)) m (gf_mo lo hi) (fun _ _ => True) post ?_ ?_ (fun _ _ _ _ _ => trivial) _ trivial h
  · intro n s _ hp
    exact br_t (nI_le (Nat.le_refl _) (by omega)) hp
  · intro n s i a e _ hw
    have hlt := gf_lt e
    have c := gf_Xc hX hl e
    have vi : vp_in (nI i) 40 := vp_in_nI (by omega) (by omega)
    refine br_f (nI_ge (by omega) (by omega)) ⟨vi, xi c.1 (hG'.2.1 a (gf_mem e)) hlo hhi (fun z => br_f (by decide) ⟨vi, br_c (fun y => nm_r (nI_1 i) ?_) (fun y => ⟨vi, nm_r (e' := gf_mo lo hi s a) ?_ (nm_r (nI_1 i) hw)⟩)⟩) (fun z => br_t rfl (nm_r (nI_1 i) ?_))⟩
    · rw [c.2] at y
      rw [gf_mo_t z y] at hw
      exact hw
    · rw [c.2] at y ⊢
      rw [gf_mo_g z y]
    · rw [gf_mo_f z] at hw
      exact hw
theorem ymo {post : Int32 → Prop} {l : List (Nat × Int32)} {u : SY} {lo hi : Nat} (hG : gf_G l) (hA : gf_AY l u) (hlo : lo < 1024) (hhi : hi < 1024) (r1 : lo / 32 ≤ hi / 32) (r2 : lo % 32 ≤ hi % 32) (h : post (l.foldl (gf_mo lo hi) (-2147483648))) : wpY_most post u (nI lo) (nI hi) := by
  obtain ⟨m, A, B, C, rfl, hY, hm⟩ := hA
  have hG' := gf_Gp hm.symm hG
  have hl := hG'.2.2
  rw [← gf_mo_p hm] at h
  unfold wpY_most
  dsimp only
  refine yr_t hlo hhi r1 r2 (br_t rfl ⟨m.length + 1, ?_⟩)
  refine gf_loop (fun n s i => wY_most_17 post (nI lo) (nI hi) (nI m.length) A B C n s (nI i)) m (gf_mo lo hi) (fun _ _ => True) post ?_ ?_ (fun _ _ _ _ _ => trivial) _ trivial h
  · intro n s _ hp
    exact br_t (nI_le (Nat.le_refl _) (by omega)) hp
  · intro n s i a e _ hw
    have hlt := gf_lt e
    have c := gf_Yc hY hl e
    have vi : vp_in (nI i) 40 := vp_in_nI (by omega) (by omega)
    refine br_f (nI_ge (by omega) (by omega)) (br_f (nI_ge (b := 40) (by omega) (by decide)) (yi hY hG' e hlo hhi (fun z => br_f (by decide) ⟨vi, br_c (fun y => nm_r (nI_1 i) ?_) (fun y => ⟨vi, nm_r (e' := gf_mo lo hi s a) ?_ (nm_r (nI_1 i) hw)⟩)⟩) (fun z => br_t rfl (nm_r (nI_1 i) ?_))))
    · rw [c.2.2] at y
      rw [gf_mo_t z y] at hw
      exact hw
    · rw [c.2.2] at y ⊢
      rw [gf_mo_g z y]
    · rw [gf_mo_f z] at hw
      exact hw
/-! distances -/
def gf_d (p q : Nat) : Int32 := (nI (p / 32) - nI (q / 32)) * (nI (p / 32) - nI (q / 32)) + (nI (p % 32) - nI (q % 32)) * (nI (p % 32) - nI (q % 32))
theorem xd {post : Int32 → Prop} {x y : Int32} {p q : Nat} (ex : x = nI p) (ey : y = nI q) (hp : p < 1024) (hq : q < 1024) (h : post (gf_d p q)) : wpX_distance post x y := by
  subst ex ey
  unfold wpX_distance
  rw [gf_rem hp, gf_rem hq, gf_div hp, gf_div hq]
  exact ⟨by decide, by decide, nm_e ⟨by decide, by decide, nm_e h⟩⟩
theorem yd {post : Int32 → Prop} {l : List (Nat × Int32)} {A B C : Nat → Int32} {s : Int32} {i q : Nat} {a : Nat × Int32} {x y : Int32} (hY : gf_Y l A B C) (hl : l.length ≤ 40) (e : l[i]? = some a) (ex : x = nI (q / 32)) (ey : y = nI (q % 32)) (h : post (gf_d a.1 q)) : wpY_apart post (s, A, B, C) (nI i) x y := by
  subst ex ey
  have hi := gf_lt e
  have c := gf_Yc hY hl e
  have vi : vp_in (nI i) 40 := vp_in_nI (by omega) (by omega)
  unfold wpY_apart
  dsimp only
  rw [c.1, c.2.1]
  exact ⟨vi, vi, vi, vi, h⟩
def gf_wi (q : Nat) (r : Int32) (a : Nat × Int32) : Bool := decide (¬ r < gf_d a.1 q)
theorem xwi {post : Int32 → Prop} {l : List (Nat × Int32)} {u : SX} {x y : Nat} {r : Int32} (hG : gf_G l) (hA : gf_AX l u) (hx : x < 32) (hy : y < 32) (h : post (nI (l.countP (gf_wi (32 * x + y) r)))) : wpX_within post u (nI x) (nI y) r := by
  obtain ⟨m, P, V, rfl, hX, hS, hm⟩ := hA
  have hG' := gf_Gp hm.symm hG
  have hl := hG'.2.2
  rw [← hm.countP_eq] at h
  unfold wpX_within
  dsimp only
  refine xg_t hx hy (br_f (by decide) (nm_r (gf_pl x y) ?_))
  refine gf_count (fun n s i => wX_within_24 post r (nI (32 * x + y)) (nI m.length) P V n (nI s) (nI i)) m (gf_wi (32 * x + y) r) (fun s => post (nI s)) ?_ ?_ h
  · intro n s hp
    exact br_t (nI_le (Nat.le_refl _) (by omega)) hp
  · intro n s i a e h1 h0
    have hlt := gf_lt e
    exact br_f (nI_ge (by omega) (by omega)) ⟨vp_in_nI (by omega) (by omega), xd (gf_Xc hX hl e).1 rfl (hG'.2.1 a (gf_mem e)) (by omega) (br_c (fun z => nm_r (nI_1 i) (h0 (decide_eq_false (fun w => w z)))) (fun z => nm_r (nI_1 s) (nm_r (nI_1 i) (h1 (decide_eq_true z)))))⟩
theorem ywi {post : Int32 → Prop} {l : List (Nat × Int32)} {u : SY} {x y : Nat} {r : Int32} (hG : gf_G l) (hA : gf_AY l u) (hx : x < 32) (hy : y < 32) (h : post (nI (l.countP (gf_wi (32 * x + y) r)))) : wpY_within post u (nI x) (nI y) r := by
  obtain ⟨m, A, B, C, rfl, hY, hm⟩ := hA
  have hG' := gf_Gp hm.symm hG
  have hl := hG'.2.2
  rw [← hm.countP_eq] at h
  unfold wpY_within
  dsimp only
  refine yb_t hx (br_t rfl (yb_t hy (br_t rfl ?_)))
  refine gf_count (fun n s i => wY_within_24 post (nI x) (nI y) r (nI m.length) A B C n (nI s) (nI i)) m (gf_wi (32 * x + y) r) (fun s => post (nI s)) ?_ ?_ h
  · intro n s hp
    exact br_t (nI_le (Nat.le_refl _) (by omega)) hp
  · intro n s i a e h1 h0
    have hlt := gf_lt e
    exact br_f (nI_ge (by omega) (by omega)) (br_f (nI_ge (b := 40) (by omega) (by decide)) (yd (q := 32 * x + y) hY hl e (congrArg nI (by omega)) (congrArg nI (by omega)) (br_c (fun z => nm_r (nI_1 i) (h0 (decide_eq_false (fun w => w z)))) (fun z => nm_r (nI_1 s) (nm_r (nI_1 i) (h1 (decide_eq_true z)))))))
theorem xwi_f {post : Int32 → Prop} {u : SX} {x y r : Int32} (hc : ¬ (gf_C x ∧ gf_C y)) (h : post (-1)) : wpX_within post u x y r := by
  obtain ⟨f, P, V⟩ := u
  unfold wpX_within
  dsimp only
  exact xg_f hc (br_t rfl h)
theorem ywi_f {post : Int32 → Prop} {u : SY} {x y r : Int32} (hc : ¬ (gf_C x ∧ gf_C y)) (h : post (-1)) : wpY_within post u x y r := by
  obtain ⟨f, A, B, C⟩ := u
  unfold wpY_within
  dsimp only
  by_cases hx : gf_C x
  · have hy := gf_n0 hc hx
    obtain ⟨a, ha, rfl⟩ := hx
    exact yb_t ha (br_t rfl (yb_f hy (br_f (by decide) h)))
  · exact yb_f hx (br_f (by decide) h)
/-! line -/
def gf_li (v x : Int32) (a : Nat × Int32) : Bool := if v = 0 then decide (nI (a.1 / 32) = x) else decide (nI (a.1 % 32) = x)
theorem xli {post : Int32 → Prop} {l : List (Nat × Int32)} {u : SX} {v x : Int32} (hG : gf_G l) (hA : gf_AX l u) (hv : v = 0 ∨ v = 1) (hx : gf_C x) (h : post (nI (l.countP (gf_li v x)))) : wpX_line post u v x := by
  obtain ⟨m, P, V, rfl, hX, hS, hm⟩ := hA
  have hG' := gf_Gp hm.symm hG
  have hl := hG'.2.2
  rw [← hm.countP_eq] at h
  have go : wX_line_11 post v x (nI m.length) P V := by
    unfold wX_line_11
    obtain ⟨c, hc, ec⟩ := hx
    have hxc : ∀ q : Int32 → Prop, q 1 → wpX_isCoordinate q x := fun q hq => by rw [ec]; exact xc_t hc hq
    refine hxc _ (br_f (by decide) ?_)
    refine gf_count (fun n s i => wX_line_26 post v x (nI m.length) P V n (nI s) (nI i)) m (gf_li v x) (fun s => post (nI s)) ?_ ?_ h
    · intro n s hp
      exact br_t (nI_le (Nat.le_refl _) (by omega)) hp
    · intro n s i a e h1 h0
      have hlt := gf_lt e
      have hb := hG'.2.1 a (gf_mem e)
      have vi : vp_in (nI i) 40 := vp_in_nI (by omega) (by omega)
      refine br_f (nI_ge (by omega) (by omega)) ?_
      rw [(gf_Xc hX hl e).1, gf_rem hb, gf_div hb]
      refine br_c (fun z => ⟨vi, by decide, br_c (fun y => nm_r (nI_1 s) (nm_r (nI_1 i) (h1 ?_))) (fun y => nm_r (nI_1 i) (h0 ?_))⟩) (fun z => ⟨vi, by decide, br_c (fun y => nm_r (nI_1 s) (nm_r (nI_1 i) (h1 ?_))) (fun y => nm_r (nI_1 i) (h0 ?_))⟩)
      · unfold gf_li; rw [if_pos z]; exact decide_eq_true y
      · unfold gf_li; rw [if_pos z]; exact decide_eq_false y
      · unfold gf_li; rw [if_neg z]; exact decide_eq_true y
      · unfold gf_li; rw [if_neg z]; exact decide_eq_false y
  unfold wpX_line
  dsimp only
  exact br_c (fun _ => go) (fun z => br_t (hv.resolve_left z) go)
theorem yli {post : Int32 → Prop} {l : List (Nat × Int32)} {u : SY} {v x : Int32} (hG : gf_G l) (hA : gf_AY l u) (hv : v = 0 ∨ v = 1) (hx : gf_C x) (h : post (nI (l.countP (gf_li v x)))) : wpY_line post u v x := by
  obtain ⟨m, A, B, C, rfl, hY, hm⟩ := hA
  have hG' := gf_Gp hm.symm hG
  have hl := hG'.2.2
  rw [← hm.countP_eq] at h
  have v0 : ¬ v < 0 := by rcases hv with rfl | rfl <;> decide
  have v1 : v ≤ 1 := by rcases hv with rfl | rfl <;> decide
  unfold wpY_line
  dsimp only
  obtain ⟨c, hc, ec⟩ := hx
  have hxc : ∀ q : Int32 → Prop, q 0 → wpY_bad q (nI m.length, A, B, C) x := fun q hq => by rw [ec]; exact yb_t hc hq
  refine br_f v0 (br_t v1 (hxc _ (br_t rfl ?_)))
  refine gf_count (fun n s i => wY_line_27 post v x (nI m.length) A B C n (nI s) (nI i)) m (gf_li v x) (fun s => post (nI s)) ?_ ?_ h
  · intro n s hp
    exact br_t (nI_le (Nat.le_refl _) (by omega)) hp
  · intro n s i a e h1 h0
    have hlt := gf_lt e
    have c := gf_Yc hY hl e
    have vi : vp_in (nI i) 40 := vp_in_nI (by omega) (by omega)
    refine br_f (nI_ge (by omega) (by omega)) (br_f (nI_ge (b := 40) (by omega) (by decide)) ?_)
    rw [c.1, c.2.1]
    refine br_c (fun z => ⟨vi, br_c (fun y => nm_r (nI_1 s) (nm_r (nI_1 i) (h1 ?_))) (fun y => nm_r (nI_1 i) (h0 ?_))⟩) (fun z => ⟨vi, br_c (fun y => nm_r (nI_1 s) (nm_r (nI_1 i) (h1 ?_))) (fun y => nm_r (nI_1 i) (h0 ?_))⟩)
    · unfold gf_li; rw [if_pos z]; exact decide_eq_true y
    · unfold gf_li; rw [if_pos z]; exact decide_eq_false y
    · unfold gf_li; rw [if_neg z]; exact decide_eq_true y
    · unfold gf_li; rw [if_neg z]; exact decide_eq_false y
theorem xli_f1 {post : Int32 → Prop} {u : SX} {v x : Int32} (hv : ¬ (v = 0 ∨ v = 1)) (h : post (-1)) : wpX_line post u v x := by
  obtain ⟨f, P, V⟩ := u
  unfold wpX_line
  dsimp only
  exact br_f (fun z => hv (Or.inl z)) (br_f (fun z => hv (Or.inr z)) h)
theorem yli_f1 {post : Int32 → Prop} {u : SY} {v x : Int32} (hv : ¬ (v = 0 ∨ v = 1)) (h : post (-1)) : wpY_line post u v x := by
  obtain ⟨f, A, B, C⟩ := u
  unfold wpY_line
  dsimp only
  by_cases v0 : v < 0
  · exact br_t v0 h
  · by_cases v1 : v ≤ 1
    · obtain ⟨j, hj, rfl⟩ := nI_of2 (M := 1) (n := 1) (by decide) v0 v1
      have : j = 0 ∨ j = 1 := by omega
      exact absurd (by rcases this with rfl | rfl; exact Or.inl rfl; exact Or.inr rfl) hv
    · exact br_f v0 (br_f v1 h)
theorem xli_f2 {post : Int32 → Prop} {u : SX} {v x : Int32} (hv : v = 0 ∨ v = 1) (hx : ¬ gf_C x) (h : post (-2)) : wpX_line post u v x := by
  obtain ⟨f, P, V⟩ := u
  have go : wX_line_11 post v x f P V := by
    unfold wX_line_11
    exact xc_f hx (br_t rfl h)
  unfold wpX_line
  dsimp only
  exact br_c (fun _ => go) (fun z => br_t (hv.resolve_left z) go)
theorem yli_f2 {post : Int32 → Prop} {u : SY} {v x : Int32} (hv : v = 0 ∨ v = 1) (hx : ¬ gf_C x) (h : post (-2)) : wpY_line post u v x := by
  obtain ⟨f, A, B, C⟩ := u
  have v0 : ¬ v < 0 := by rcases hv with rfl | rfl <;> decide
  have v1 : v ≤ 1 := by rcases hv with rfl | rfl <;> decide
  unfold wpY_line
  dsimp only
  exact br_f v0 (br_t v1 (yb_f hx (br_f (by decide) h)))
end
section
/-! point, nearest, frontier, closest -/
def gf_pt (lo hi : Nat) (v : Int32) : List (Nat × Int32) → Nat → Int32
  | [], _ => -2
  | a :: t, c => if gf_in lo hi a.1 = true then (if nI c = v then nI a.1 else gf_pt lo hi v t (c + 1)) else gf_pt lo hi v t c
theorem gf_pt_f {lo hi : Nat} {v : Int32} {a : Nat × Int32} {t : List (Nat × Int32)} {c : Nat} (h : gf_in lo hi a.1 = false) : gf_pt lo hi v (a :: t) c = gf_pt lo hi v t c := if_neg (by rw [h]; decide)
theorem gf_pt_y {lo hi : Nat} {v : Int32} {a : Nat × Int32} {t : List (Nat × Int32)} {c : Nat} (h : gf_in lo hi a.1 = true) (h2 : nI c = v) : gf_pt lo hi v (a :: t) c = nI a.1 := (if_pos h).trans (if_pos h2)
theorem gf_pt_n {lo hi : Nat} {v : Int32} {a : Nat × Int32} {t : List (Nat × Int32)} {c : Nat} (h : gf_in lo hi a.1 = true) (h2 : ¬ nI c = v) : gf_pt lo hi v (a :: t) c = gf_pt lo hi v t (c + 1) := (if_pos h).trans (if_neg h2)
theorem xpt {post : Int32 → Prop} {l : List (Nat × Int32)} {u : SX} {lo hi : Nat} {v : Int32} (hG : gf_G l) (hA : gf_AX l u) (hlo : lo < 1024) (hhi : hi < 1024) (r1 : lo / 32 ≤ hi / 32) (r2 : lo % 32 ≤ hi % 32) (h : ∀ k, gf_S k → k.Perm l → post (gf_pt lo hi v k 0)) : wpX_point post u (nI lo) (nI hi) v := by
  obtain ⟨m, P, V, rfl, hX, hS, hm⟩ := hA
  have hG' := gf_Gp hm.symm hG
  have hl := hG'.2.2
  have key : ∀ d s c, s + d = m.length → post (gf_pt lo hi v (m.drop s) c) → wX_point_16 post (nI lo) (nI hi) v (nI m.length) P V (d + 1) (nI c) (nI s) := by
    intro d
    induction d with
    | zero =>
      intro s c hs hp
      rw [List.drop_eq_nil_of_le (by omega)] at hp
      exact br_t (nI_le (by omega) (by omega)) hp
    | succ d ih =>
      intro s c hs hp
      have hlt : s < m.length := by omega
      have e : m[s]? = some m[s] := List.getElem?_eq_getElem hlt
      have cc := gf_Xc hX hl e
      have vs : vp_in (nI s) 40 := vp_in_nI (by omega) (by omega)
      rw [List.drop_eq_getElem_cons hlt] at hp
      refine br_f (nI_ge (by omega) (by omega)) ⟨vs, xi cc.1 (hG'.2.1 _ (gf_mem e)) hlo hhi (fun z => br_f (by decide) (br_c (fun y => ⟨vs, ?_⟩) (fun y => nm_r (nI_1 c) (nm_r (nI_1 s) (ih (s + 1) (c + 1) (by omega) ?_))))) (fun z => br_t rfl (nm_r (nI_1 s) (ih (s + 1) c (by omega) ?_)))⟩
      · rw [gf_pt_y z y] at hp
        rw [cc.1]
        exact hp
      · rw [gf_pt_n z y] at hp
        exact hp
      · rw [gf_pt_f z] at hp
        exact hp
  unfold wpX_point
  dsimp only
  exact xr_t hlo hhi r1 r2 (br_f (by decide) ⟨m.length + 1, key m.length 0 0 (by omega) (by rw [List.drop_zero]; exact h m hS hm)⟩)
theorem ypt {post : Int32 → Prop} {l k : List (Nat × Int32)} {u : SY} {lo hi : Nat} {v : Int32} (hG : gf_G l) (hA : gf_AY l u) (hlo : lo < 1024) (hhi : hi < 1024) (r1 : lo / 32 ≤ hi / 32) (r2 : lo % 32 ≤ hi % 32) (hS : gf_S k) (hk : k.Perm l) (h : post (gf_pt lo hi v k 0)) : wpY_point post u (nI lo) (nI hi) v := by
  obtain ⟨m, A, B, C, rfl, hY, hm⟩ := hA
  have hG' := gf_Gp hm.symm hG
  have hl := hG'.2.2
  have mk : ∀ a, a ∈ k ↔ a ∈ m := fun a => hk.mem_iff.trans hm.mem_iff.symm
  have key : ∀ d p rest c, p + d = 1024 → gf_S rest → (∀ a, a ∈ rest ↔ (a ∈ m ∧ p ≤ a.1)) → post (gf_pt lo hi v rest c) → wY_point_17 post (nI lo) (nI hi) v (nI m.length) A B C (d + 1) (nI c) (nI p) := by
    intro d
    induction d with
    | zero =>
      intro p rest c hp hR hM h
      have e : rest = [] := by
        cases rest with
        | nil => rfl
        | cons a t =>
          have h1 := (hM a).mp List.mem_cons_self
          have h2 := hG'.2.1 a h1.1
          omega
      rw [e] at h
      exact br_t (nI_le (a := 1024) (by omega) (by omega)) h
    | succ d ih =>
      intro p rest c hp hR hM h
      have ep : 32 * (p / 32) + p % 32 = p := by omega
      refine br_f (nI_ge (b := 1024) (by omega) (by decide)) ?_
      rw [gf_rem (a := p) (by omega), gf_div (a := p) (by omega)]
      refine ⟨by decide, by decide, yfq hY hG' (by omega) (by omega) ?_ ?_⟩
      · intro i a e ea
        rw [ep] at ea
        have hi' := gf_lt e
        have ha : a ∈ rest := (hM a).mpr ⟨gf_mem e, by omega⟩
        cases rest with
        | nil => cases ha
        | cons b t =>
          have hR' := List.pairwise_cons.mp hR
          have hb := (hM b).mp List.mem_cons_self
          have eb : b = a := by
            rcases List.mem_cons.mp ha with z | z
            · exact z.symm
            · have := hR'.1 a z
              omega
          subst eb
          have hM' : ∀ a, a ∈ t ↔ (a ∈ m ∧ p + 1 ≤ a.1) := by
            intro x
            constructor
            · intro hx
              have h1 := (hM x).mp (List.mem_cons_of_mem _ hx)
              have h2 := hR'.1 x hx
              exact ⟨h1.1, by omega⟩
            · intro hx
              rcases List.mem_cons.mp ((hM x).mpr ⟨hx.1, by omega⟩) with z | z
              · rw [z] at hx
                omega
              · exact z
          refine br_f (nI_pos (by omega)) (yi hY hG' e hlo hhi (fun z => br_f (by decide) (br_c (fun y => ?_) (fun y => nm_r (nI_1 c) (nm_r (nI_1 p) (ih (p + 1) t (c + 1) (by omega) hR'.2 hM' ?_))))) (fun z => br_t rfl (nm_r (nI_1 p) (ih (p + 1) t c (by omega) hR'.2 hM' ?_))))
          · rw [gf_pt_y z y, ea] at h
            exact h
          · rw [gf_pt_n z y] at h
            exact h
          · rw [gf_pt_f z] at h
            exact h
      · intro hn
        rw [ep] at hn
        refine br_t (by decide) (nm_r (nI_1 p) (ih (p + 1) rest c (by omega) hR ?_ h))
        intro a
        rw [hM a]
        constructor
        · intro z
          have := hn a z.1
          exact ⟨z.1, by omega⟩
        · intro z
          exact ⟨z.1, by omega⟩
  unfold wpY_point
  dsimp only
  exact yr_t hlo hhi r1 r2 (br_t rfl ⟨1025, key 1024 0 k 0 (by omega) hS (fun a => (mk a).trans ⟨fun z => ⟨z, Nat.zero_le _⟩, fun z => z.1⟩) h⟩)
/-! distances as naturals -/
def gf_ad (a b : Nat) : Nat := (a - b) + (b - a)
def gf_dn (p q : Nat) : Nat := gf_ad (p / 32) (q / 32) * gf_ad (p / 32) (q / 32) + gf_ad (p % 32) (q % 32) * gf_ad (p % 32) (q % 32)
theorem gf_ad_c (a b : Nat) : gf_ad a b = gf_ad b a := Nat.add_comm _ _
theorem gf_dn_c (p q : Nat) : gf_dn p q = gf_dn q p := by
  unfold gf_dn
  rw [gf_ad_c (p / 32), gf_ad_c (p % 32)]
theorem gf_sq (a b : Nat) : (nI a - nI b) * (nI a - nI b) = nI (gf_ad a b * gf_ad a b) := by
  rcases Nat.le_total b a with h | h
  · rw [pk_sub h, pk_mul, show gf_ad a b = a - b by unfold gf_ad; omega]
  · have e : (nI a - nI b) * (nI a - nI b) = (nI b - nI a) * (nI b - nI a) := by grind
    rw [e, pk_sub h, pk_mul, show gf_ad a b = b - a by unfold gf_ad; omega]
theorem gf_dN (p q : Nat) : gf_d p q = nI (gf_dn p q) := by
  unfold gf_d gf_dn
  rw [gf_sq, gf_sq, nI_add]
theorem gf_dn_lt {p q : Nat} (hp : p < 1024) (hq : q < 1024) : gf_dn p q < 2048 := by
  have h1 : gf_ad (p / 32) (q / 32) ≤ 31 := by unfold gf_ad; omega
  have h2 : gf_ad (p % 32) (q % 32) ≤ 31 := by unfold gf_ad; omega
  have h3 := Nat.mul_le_mul h1 h1
  have h4 := Nat.mul_le_mul h2 h2
  unfold gf_dn
  omega
theorem xdn {post : Int32 → Prop} {x y : Int32} {p q : Nat} (ex : x = nI p) (ey : y = nI q) (hp : p < 1024) (hq : q < 1024) (h : post (nI (gf_dn p q))) : wpX_distance post x y :=
  xd ex ey hp hq (by rw [gf_dN]; exact h)
theorem ydn {post : Int32 → Prop} {l : List (Nat × Int32)} {A B C : Nat → Int32} {s : Int32} {i q : Nat} {a : Nat × Int32} {x y : Int32} (hY : gf_Y l A B C) (hl : l.length ≤ 40) (e : l[i]? = some a) (ex : x = nI (q / 32)) (ey : y = nI (q % 32)) (h : post (nI (gf_dn a.1 q))) : wpY_apart post (s, A, B, C) (nI i) x y :=
  yd hY hl e ex ey (by rw [gf_dN]; exact h)
/-! nearest: the least of distance * 1024 + place -/
def gf_k (c : Nat) (a : Nat × Int32) : Nat := gf_dn a.1 c * 1024 + a.1
def gf_mn (c m : Nat) (a : Nat × Int32) : Nat := if gf_k c a < m then gf_k c a else m
def gf_eb (m : Nat) : Int32 := if m = 2097152 then -2 else nI (m % 1024)
def gf_ex (m : Nat) : Int32 := if m = 2097152 then 2147483647 else nI (m / 1024)
def gf_ey (m : Nat) : Int32 := if m = 2097152 then 0 else nI (m / 1024)
theorem gf_mn_p {l m : List (Nat × Int32)} (h : l.Perm m) (c s : Nat) : l.foldl (gf_mn c) s = m.foldl (gf_mn c) s := by
  refine h.foldl_eq' ?_ s
  intro x _ y _ z
  unfold gf_mn
  generalize gf_k c x = p
  generalize gf_k c y = q
  (repeat' split) <;> omega
theorem gf_k_f {c : Nat} {a : Nat × Int32} (hc : c < 1024) (ha : a.1 < 1024) : gf_k c a < 2097152 ∧ gf_k c a % 1024 = a.1 ∧ gf_k c a / 1024 = gf_dn a.1 c := by
  have := gf_dn_lt ha hc
  unfold gf_k
  omega
theorem gf_eb_k {c : Nat} {a : Nat × Int32} (hc : c < 1024) (ha : a.1 < 1024) : gf_eb (gf_k c a) = nI a.1 ∧ gf_ex (gf_k c a) = nI (gf_dn a.1 c) ∧ gf_ey (gf_k c a) = nI (gf_dn a.1 c) := by
  have h := gf_k_f hc ha
  unfold gf_eb gf_ex gf_ey
  have hn : ¬ gf_k c a = 2097152 := by omega
  rw [if_neg hn, if_neg hn, if_neg hn, h.2.1, h.2.2]
  exact ⟨rfl, rfl, rfl⟩
theorem gf_mn_t {c m : Nat} {a : Nat × Int32} (h : gf_k c a < m) : gf_mn c m a = gf_k c a := if_pos h
theorem gf_mn_f {c m : Nat} {a : Nat × Int32} (h : ¬ gf_k c a < m) : gf_mn c m a = m := if_neg h
theorem xne {post : Int32 → Prop} {l : List (Nat × Int32)} {u : SX} {x y : Nat} (hG : gf_G l) (hA : gf_AX l u) (hx : x < 32) (hy : y < 32) (h : post (gf_eb (l.foldl (gf_mn (32 * x + y)) 2097152))) : wpX_nearest post u (nI x) (nI y) := by
  obtain ⟨m, P, V, rfl, hX, hS, hm⟩ := hA
  have hG' := gf_Gp hm.symm hG
  have hl := hG'.2.2
  rw [← gf_mn_p hm] at h
  unfold wpX_nearest
  dsimp only
  have hc : 32 * x + y < 1024 := by omega
  refine xg_t hx hy (br_f (by decide) (nm_r (gf_pl x y) ⟨m.length + 1, ?_⟩))
  revert h hc
  generalize 32 * x + y = c
  intro h hc
  refine gf_loop (fun n s i => wX_nearest_28 post (nI c) (nI m.length) P V n (gf_eb s) (gf_ex s) (nI i)) m (gf_mn c) (fun i s => s = 2097152 ∨ (s < 2097152 ∧ ∃ j b, j < i ∧ m[j]? = some b ∧ s % 1024 = b.1)) (fun s => post (gf_eb s)) ?_ ?_ ?_ 2097152 (Or.inl rfl) h
  · intro n s _ hp
    exact br_t (nI_le (Nat.le_refl _) (by omega)) hp
  · intro n s i a e hJ hw
    have hlt := gf_lt e
    have cc := gf_Xc hX hl e
    have ha := hG'.2.1 a (gf_mem e)
    have vi : vp_in (nI i) 40 := vp_in_nI (by omega) (by omega)
    have kf := gf_k_f hc ha
    have kb := gf_eb_k hc ha
    have hd := gf_dn_lt ha hc
    refine br_f (nI_ge (by omega) (by omega)) ⟨vi, xdn cc.1 rfl ha hc ?_⟩
    rcases hJ with hJ | ⟨hs, j, b, hj, ej, es⟩
    · subst hJ
      rw [gf_mn_t kf.1, kb.1, kb.2.1] at hw
      refine br_f (nI_ge (b := 2147483647) (by omega) (by decide)) ⟨vi, nm_r cc.1 (nm_r (nI_1 i) hw)⟩
    · have hba := gf_pw.mp hS j i b a hj ej e
      have ee : gf_ex s = nI (s / 1024) := if_neg (by omega)
      refine pk_le (s / 1024) (gf_dn a.1 c) (fun z => nm_r (nI_1 i) ?_) (fun z => ⟨vi, nm_r cc.1 (nm_r (nI_1 i) ?_)⟩) ee rfl
      · rw [gf_mn_f (by omega)] at hw
        exact hw
      · rw [gf_mn_t (by omega), kb.1, kb.2.1] at hw
        exact hw
  · intro s i a e hJ
    have ha := hG'.2.1 a (gf_mem e)
    have kf := gf_k_f hc ha
    by_cases z : gf_k c a < s
    · rw [gf_mn_t z]
      exact Or.inr ⟨kf.1, i, a, by omega, e, kf.2.1⟩
    · rw [gf_mn_f z]
      rcases hJ with hJ | ⟨hs, j, b, hj, ej, es⟩
      · exact Or.inl hJ
      · exact Or.inr ⟨hs, j, b, by omega, ej, es⟩
theorem yne {post : Int32 → Prop} {l : List (Nat × Int32)} {u : SY} {x y : Nat} (hG : gf_G l) (hA : gf_AY l u) (hx : x < 32) (hy : y < 32) (h : post (gf_eb (l.foldl (gf_mn (32 * x + y)) 2097152))) : wpY_nearest post u (nI x) (nI y) := by
  obtain ⟨m, A, B, C, rfl, hY, hm⟩ := hA
  have hG' := gf_Gp hm.symm hG
  have hl := hG'.2.2
  rw [← gf_mn_p hm] at h
  unfold wpY_nearest
  dsimp only
  have hc : 32 * x + y < 1024 := by omega
  refine yb_t hx (br_t rfl (yb_t hy (br_t rfl ⟨m.length + 1, ?_⟩)))
  refine gf_loop (fun n s i => wY_nearest_27 post (nI x) (nI y) (nI m.length) A B C n (gf_eb s) (gf_ey s) (nI i)) m (gf_mn (32 * x + y)) (fun _ s => s ≤ 2097152) (fun s => post (gf_eb s)) ?_ ?_ ?_ 2097152 (Nat.le_refl _) h
  · intro n s _ hp
    exact br_t (nI_le (Nat.le_refl _) (by omega)) hp
  · intro n s i a e hJ hw
    have hlt := gf_lt e
    have cc := gf_Yc hY hl e
    have ha := hG'.2.1 a (gf_mem e)
    have vi : vp_in (nI i) 40 := vp_in_nI (by omega) (by omega)
    have kf := gf_k_f hc ha
    have kb := gf_eb_k hc ha
    have hd := gf_dn_lt ha hc
    have ex : x = (32 * x + y) / 32 := by omega
    have ey : y = (32 * x + y) % 32 := by omega
    refine br_f (nI_ge (by omega) (by omega)) (br_f (nI_ge (b := 40) (by omega) (by decide)) (ydn (q := 32 * x + y) hY hl e (congrArg nI ex) (congrArg nI ey) ⟨vi, vi, nm_r (e' := nI a.1) ?_ ?_⟩))
    · rw [cc.1, cc.2.1, gf_pl]
      exact congrArg nI (by omega)
    · by_cases hJ' : s = 2097152
      · subst hJ'
        rw [gf_mn_t kf.1, kb.1, kb.2.2] at hw
        exact br_t (by decide) (nm_r (nI_1 i) hw)
      · have e1 : gf_eb s = nI (s % 1024) := if_neg hJ'
        have e2 : gf_ey s = nI (s / 1024) := if_neg hJ'
        have up : gf_k (32 * x + y) a < s → wY_nearest_27 post (nI x) (nI y) (nI m.length) A B C n (nI a.1) (nI (gf_dn a.1 (32 * x + y))) (nI (i + 1)) := by
          intro z
          rw [gf_mn_t z, kb.1, kb.2.2] at hw
          exact hw
        have st : ¬ gf_k (32 * x + y) a < s → wY_nearest_27 post (nI x) (nI y) (nI m.length) A B C n (gf_eb s) (gf_ey s) (nI (i + 1)) := by
          intro z
          rw [gf_mn_f z] at hw
          exact hw
        refine br_f (by rw [e1]; exact nI_pos (by omega)) (pk_lt (gf_dn a.1 (32 * x + y)) (s / 1024) (fun z => nm_r (nI_1 i) (up (by omega))) (fun z => pk_eq (gf_dn a.1 (32 * x + y)) (s / 1024) (fun z2 => pk_le (s % 1024) a.1 (fun z3 => nm_r (nI_1 i) (st (by omega))) (fun z3 => nm_r (nI_1 i) (up (by omega))) e1 rfl) (fun z2 => nm_r (nI_1 i) (st (by omega))) rfl e2) rfl e2)
  · intro s i a e hJ
    by_cases z : gf_k (32 * x + y) a < s
    · rw [gf_mn_t z]
      omega
    · rw [gf_mn_f z]
      exact hJ
theorem xne_f {post : Int32 → Prop} {u : SX} {x y : Int32} (hc : ¬ (gf_C x ∧ gf_C y)) (h : post (-1)) : wpX_nearest post u x y := by
  obtain ⟨f, P, V⟩ := u
  unfold wpX_nearest
  dsimp only
  exact xg_f hc (br_t rfl h)
theorem yne_f {post : Int32 → Prop} {u : SY} {x y : Int32} (hc : ¬ (gf_C x ∧ gf_C y)) (h : post (-1)) : wpY_nearest post u x y := by
  obtain ⟨f, A, B, C⟩ := u
  unfold wpY_nearest
  dsimp only
  by_cases hx : gf_C x
  · have hy := gf_n0 hc hx
    obtain ⟨a, ha, rfl⟩ := hx
    exact yb_t ha (br_t rfl (yb_f hy (br_f (by decide) h)))
  · exact yb_f hx (br_f (by decide) h)
end
section
/-! frontier -/
def gf_q (p : Nat) (b : Nat × Int32) : Bool := decide (b.1 ≠ p) && gf_ge b.1 p
def gf_dm (l : List (Nat × Int32)) (p : Nat) : Bool := l.any (gf_q p)
def gf_fr (l : List (Nat × Int32)) (a : Nat × Int32) : Bool := !gf_dm l a.1
theorem gf_fr_p {l m : List (Nat × Int32)} (h : l.Perm m) : l.countP (gf_fr l) = m.countP (gf_fr m) := by
  have e : gf_fr l = gf_fr m := by
    funext a
    unfold gf_fr gf_dm
    rw [h.any_eq]
  rw [e, h.countP_eq]
theorem xdm {post : Int32 → Prop} {l : List (Nat × Int32)} {P V : Nat → Int32} {x : Int32} {p : Nat} (hX : gf_X l P V) (hG : gf_G l) (ex : x = nI p) (hp : p < 1024) (h1 : gf_dm l p = true → post 1) (h0 : gf_dm l p = false → post 0) : wpX_isDominated post (nI l.length, P, V) x := by
  subst ex
  have hl := hG.2.2
  have key : ∀ d i, i + d = l.length → (∀ j b, j < i → l[j]? = some b → ¬ gf_q p b = true) → wX_isDominated_2 post (nI p) (nI l.length) P V (d + 1) (nI i) := by
    intro d
    induction d with
    | zero =>
      intro i hi hj
      refine br_t (nI_le (by omega) (by omega)) (h0 (List.any_eq_false.mpr ?_))
      intro a ha
      obtain ⟨j, e⟩ := gf_idx ha
      have := gf_lt e
      exact hj j a (by omega) e
    | succ d ih =>
      intro i hi hj
      have e : l[i]? = some l[i] := List.getElem?_eq_getElem (by omega)
      have hb := hG.2.1 _ (gf_mem e)
      have cc := gf_Xc hX hl e
      have vi : vp_in (nI i) 40 := vp_in_nI (by omega) (by omega)
      have nx : ¬ gf_q p l[i] = true → wX_isDominated_2 post (nI p) (nI l.length) P V (d + 1) (nI (i + 1)) := by
        intro h
        refine ih (i + 1) (by omega) ?_
        intro j a hj' ej
        by_cases z : j = i
        · subst z
          cases Option.some.inj (e.symm.trans ej)
          exact h
        · exact hj j a (by omega) ej
      refine br_f (nI_ge (by omega) (by omega)) ⟨vi, pk_eq (l[i]).1 p (fun z => nm_r (nI_1 i) (nx ?_)) (fun z => ⟨vi, xa cc.1 rfl hb hp (fun y => br_f (by decide) (h1 ?_)) (fun y => br_t rfl (nm_r (nI_1 i) (nx ?_)))⟩) cc.1 rfl⟩
      · unfold gf_q
        rw [decide_eq_false (fun w => w z), Bool.false_and]
        decide
      · refine List.any_eq_true.mpr ⟨_, gf_mem e, ?_⟩
        unfold gf_q
        rw [decide_eq_true z, y]
        rfl
      · unfold gf_q
        rw [y, Bool.and_false]
        decide
  exact ⟨l.length + 1, key l.length 0 (by omega) (fun j a hj => absurd hj (by omega))⟩
theorem xfr {post : Int32 → Prop} {l : List (Nat × Int32)} {u : SX} (hG : gf_G l) (hA : gf_AX l u) (h : post (nI (l.countP (gf_fr l)))) : wpX_frontier post u := by
  obtain ⟨m, P, V, rfl, hX, hS, hm⟩ := hA
  have hG' := gf_Gp hm.symm hG
  have hl := hG'.2.2
  rw [← gf_fr_p hm] at h
  unfold wpX_frontier
  dsimp only
  refine gf_count (fun n s i => wX_frontier_4 post (nI m.length) P V n (nI s) (nI i)) m (gf_fr m) (fun s => post (nI s)) ?_ ?_ h
  · intro n s hp
    exact br_t (nI_le (Nat.le_refl _) (by omega)) hp
  · intro n s i a e h1 h0
    have hlt := gf_lt e
    refine br_f (nI_ge (by omega) (by omega)) ⟨vp_in_nI (by omega) (by omega), xdm hX hG' (gf_Xc hX hl e).1 (hG'.2.1 a (gf_mem e)) (fun z => br_f (by decide) (nm_r (nI_1 i) (h0 ?_))) (fun z => br_t rfl (nm_r (nI_1 s) (nm_r (nI_1 i) (h1 ?_))))⟩
    · unfold gf_fr; rw [z]; rfl
    · unfold gf_fr; rw [z]; rfl
def gf_b (s : Bool) : Int32 := if s = true then 1 else 0
def gf_fs (p : Nat) (s : Bool) (b : Nat × Int32) : Bool := s && !gf_q p b
theorem gf_fs_a (p : Nat) : ∀ (l : List (Nat × Int32)) (s : Bool), l.foldl (gf_fs p) s = (s && !l.any (gf_q p))
  | [], s => by rw [List.foldl_nil, List.any_nil, Bool.not_false, Bool.and_true]
  | b :: t, s => by
    rw [List.foldl_cons, gf_fs_a p t, List.any_cons, Bool.not_or]
    unfold gf_fs
    rw [Bool.and_assoc]
theorem gf_fs_k {p : Nat} {s : Bool} {b : Nat × Int32} (h : gf_q p b = false) : gf_fs p s b = s := by unfold gf_fs; rw [h, Bool.not_false, Bool.and_true]
theorem gf_fs_d {p : Nat} {s : Bool} {b : Nat × Int32} (h : gf_q p b = true) : gf_fs p s b = false := by unfold gf_fs; rw [h, Bool.not_true, Bool.and_false]
theorem yfr {post : Int32 → Prop} {l : List (Nat × Int32)} {u : SY} (hG : gf_G l) (hA : gf_AY l u) (h : post (nI (l.countP (gf_fr l)))) : wpY_frontier post u := by
  obtain ⟨m, A, B, C, rfl, hY, hm⟩ := hA
  have hG' := gf_Gp hm.symm hG
  have hl := hG'.2.2
  rw [← gf_fr_p hm] at h
  unfold wpY_frontier
  dsimp only
  refine gf_count (fun n s i => wY_frontier_4 post (nI m.length) A B C n (nI s) (nI i)) m (gf_fr m) (fun s => post (nI s)) ?_ ?_ h
  · intro n s hp
    exact br_t (nI_le (Nat.le_refl _) (by omega)) hp
  · intro n c i a e h1 h0
    have hlt := gf_lt e
    have ha := hG'.2.1 a (gf_mem e)
    have ca := gf_Yc hY hl e
    have vi : vp_in (nI i) 40 := vp_in_nI (by omega) (by omega)
    refine br_f (nI_ge (by omega) (by omega)) (br_f (nI_ge (b := 40) (by omega) (by decide)) ⟨m.length + 1, ?_⟩)
    refine gf_loop (fun k s j => wY_frontier_23 post (wY_frontier_4 post (nI m.length) A B C n) (nI c) (nI i) (nI m.length) A B C k (gf_b s) (nI j)) m (gf_fs a.1) (fun _ _ => True) (fun s => s = gf_fr m a) ?_ ?_ (fun _ _ _ _ _ => trivial) true trivial (by rw [gf_fs_a, Bool.true_and]; rfl)
    · intro k s _ hp
      refine br_t (nI_le (Nat.le_refl _) (by omega)) ?_
      cases s with
      | true => exact br_f (by decide) (nm_r (nI_1 c) (nm_r (nI_1 i) (h1 hp.symm)))
      | false => exact br_t rfl (nm_r (nI_1 i) (h0 hp.symm))
    · intro k s j b ej _ hw
      have hjt := gf_lt ej
      have hb := hG'.2.1 b (gf_mem ej)
      have cb := gf_Yc hY hl ej
      have vj : vp_in (nI j) 40 := vp_in_nI (by omega) (by omega)
      refine br_f (nI_ge (by omega) (by omega)) (br_f (nI_ge (b := 40) (by omega) (by decide)) ?_)
      rw [ca.1, ca.2.1, cb.1, cb.2.1]
      have keep : gf_q a.1 b = false → wY_frontier_23 post (wY_frontier_4 post (nI m.length) A B C n) (nI c) (nI i) (nI m.length) A B C k (gf_b s) (nI (j + 1)) := by
        intro z
        rw [gf_fs_k z] at hw
        exact hw
      refine pk_eq j i (fun z => nm_r (nI_1 j) (keep ?_)) (fun z => ⟨vj, vi, pk_lt (b.1 / 32) (a.1 / 32) (fun y => nm_r (nI_1 j) (keep ?_)) (fun y => ⟨vj, vi, pk_lt (b.1 % 32) (a.1 % 32) (fun w => nm_r (nI_1 j) (keep ?_)) (fun w => nm_r (nI_1 j) ?_)⟩)⟩)
      · subst z
        cases Option.some.inj (e.symm.trans ej)
        unfold gf_q
        rw [decide_eq_false (fun w => w rfl)]
        rfl
      · unfold gf_q
        rw [gf_ge_f1 (by omega), Bool.and_false]
      · unfold gf_q
        rw [gf_ge_f2 (by omega), Bool.and_false]
      · have hq : gf_q a.1 b = true := by
          unfold gf_q
          have hne : b.1 ≠ a.1 := fun w => z (gf_Du hG'.1 ej e w)
          rw [decide_eq_true hne, gf_ge_t y w]
          rfl
        rw [gf_fs_d hq] at hw
        exact hw
/-! closest: the least distance of a pair -/
def gf_mi (S : Nat → Prop) : Option Nat → Prop
  | none => ∀ d, ¬ S d
  | some m => S m ∧ ∀ d, S d → m ≤ d
def gf_st : Option Nat → Nat → Option Nat
  | none, d => some d
  | some m, d => if m ≤ d then some m else some d
theorem gf_mi_st {S S' : Nat → Prop} {s : Option Nat} {d : Nat} (h : gf_mi S s) (hS : ∀ x, S' x ↔ (S x ∨ x = d)) : gf_mi S' (gf_st s d) := by
  cases s with
  | none =>
    refine ⟨(hS d).mpr (Or.inr rfl), ?_⟩
    intro x hx
    rcases (hS x).mp hx with z | z
    · exact absurd z (h x)
    · omega
  | some m =>
    by_cases z : m ≤ d
    · rw [show gf_st (some m) d = some m from if_pos z]
      refine ⟨(hS m).mpr (Or.inl h.1), ?_⟩
      intro x hx
      rcases (hS x).mp hx with y | y
      · exact h.2 x y
      · omega
    · rw [show gf_st (some m) d = some d from if_neg z]
      refine ⟨(hS d).mpr (Or.inr rfl), ?_⟩
      intro x hx
      rcases (hS x).mp hx with y | y
      · have := h.2 x y
        omega
      · omega
theorem gf_mi_c {S S' : Nat → Prop} {s : Option Nat} (h : gf_mi S s) (hS : ∀ x, S' x ↔ S x) : gf_mi S' s := by
  have e : S' = S := funext (fun x => propext (hS x))
  rw [e]
  exact h
theorem gf_mi_u {S : Nat → Prop} {s t : Option Nat} (h : gf_mi S s) (h2 : gf_mi S t) : s = t := by
  cases s with
  | none =>
    cases t with
    | none => rfl
    | some m => exact absurd h2.1 (h m)
  | some k =>
    cases t with
    | none => exact absurd h.1 (h2 k)
    | some m =>
      have h3 := h.2 m h2.1
      have h4 := h2.2 k h.1
      rw [Nat.le_antisymm h3 h4]
def gf_pq (l : List (Nat × Int32)) (R : Nat → Nat → Prop) (d : Nat) : Prop := ∃ i j a b, R i j ∧ l[i]? = some a ∧ l[j]? = some b ∧ d = gf_dn a.1 b.1
def gf_pp (l : List (Nat × Int32)) (d : Nat) : Prop := ∃ a b, a ∈ l ∧ b ∈ l ∧ a.1 ≠ b.1 ∧ d = gf_dn a.1 b.1
theorem gf_pp_p {l m : List (Nat × Int32)} (h : l.Perm m) (d : Nat) : gf_pp l d ↔ gf_pp m d := by
  constructor
  · intro ⟨a, b, ha, hb, hn, e⟩
    exact ⟨a, b, h.mem_iff.mp ha, h.mem_iff.mp hb, hn, e⟩
  · intro ⟨a, b, ha, hb, hn, e⟩
    exact ⟨a, b, h.mem_iff.mpr ha, h.mem_iff.mpr hb, hn, e⟩
theorem gf_pq_lt {l : List (Nat × Int32)} (hG : gf_G l) {R : Nat → Nat → Prop} {d : Nat} (h : gf_pq l R d) : d < 2048 := by
  obtain ⟨i, j, a, b, _, ea, eb, rfl⟩ := h
  exact gf_dn_lt (hG.2.1 a (gf_mem ea)) (hG.2.1 b (gf_mem eb))
theorem gf_pq_c {l : List (Nat × Int32)} {R R' : Nat → Nat → Prop} (h : ∀ i j, i < l.length → j < l.length → (R' i j ↔ R i j)) (d : Nat) : gf_pq l R' d ↔ gf_pq l R d := by
  constructor
  · intro ⟨i, j, a, b, r, ea, eb, e⟩
    exact ⟨i, j, a, b, (h i j (gf_lt ea) (gf_lt eb)).mp r, ea, eb, e⟩
  · intro ⟨i, j, a, b, r, ea, eb, e⟩
    exact ⟨i, j, a, b, (h i j (gf_lt ea) (gf_lt eb)).mpr r, ea, eb, e⟩
theorem gf_pq_s {l : List (Nat × Int32)} {R R' : Nat → Nat → Prop} {i j : Nat} {a b : Nat × Int32} (ea : l[i]? = some a) (eb : l[j]? = some b) (h : ∀ i' j', R' i' j' ↔ (R i' j' ∨ (i' = i ∧ j' = j))) (d : Nat) : gf_pq l R' d ↔ (gf_pq l R d ∨ d = gf_dn a.1 b.1) := by
  constructor
  · intro ⟨i', j', a', b', r, ea', eb', e⟩
    rcases (h i' j').mp r with z | ⟨rfl, rfl⟩
    · exact Or.inl ⟨i', j', a', b', z, ea', eb', e⟩
    · cases Option.some.inj (ea.symm.trans ea')
      cases Option.some.inj (eb.symm.trans eb')
      exact Or.inr e
  · intro z
    rcases z with ⟨i', j', a', b', r, ea', eb', e⟩ | e
    · exact ⟨i', j', a', b', (h i' j').mpr (Or.inl r), ea', eb', e⟩
    · exact ⟨i, j, a, b, (h i j).mpr (Or.inr ⟨rfl, rfl⟩), ea, eb, e⟩
theorem gf_pq_x {l : List (Nat × Int32)} (hD : gf_D l) {R : Nat → Nat → Prop} (h1 : ∀ i j, R i j → i ≠ j) (h2 : ∀ i j, i < l.length → j < l.length → i ≠ j → R i j ∨ R j i) (d : Nat) : gf_pp l d ↔ gf_pq l R d := by
  constructor
  · intro ⟨a, b, ha, hb, hn, e⟩
    obtain ⟨i, ei⟩ := gf_idx ha
    obtain ⟨j, ej⟩ := gf_idx hb
    have hij : i ≠ j := by
      intro z
      subst z
      cases Option.some.inj (ei.symm.trans ej)
      exact hn rfl
    rcases h2 i j (gf_lt ei) (gf_lt ej) hij with r | r
    · exact ⟨i, j, a, b, r, ei, ej, e⟩
    · exact ⟨j, i, b, a, r, ej, ei, by rw [e, gf_dn_c]⟩
  · intro ⟨i, j, a, b, r, ei, ej, e⟩
    exact ⟨a, b, gf_mem ei, gf_mem ej, fun z => h1 i j r (gf_Du hD ei ej z), e⟩
def gf_cx : Option Nat → Int32
  | none => 2147483647
  | some m => nI m
def gf_ca : Option Nat → Int32
  | none => -1
  | some m => nI m
theorem xcs {post : Int32 → Prop} {l : List (Nat × Int32)} {u : SX} (hG : gf_G l) (hA : gf_AX l u) (h : ∀ s, gf_mi (gf_pp l) s → post (gf_ca s)) : wpX_closest post u := by
  obtain ⟨m, P, V, rfl, hX, hS, hm⟩ := hA
  have hG' := gf_Gp hm.symm hG
  have hl := hG'.2.2
  have hp : ∀ s, gf_mi (gf_pp m) s → post (gf_ca s) := fun s hs => h s (gf_mi_c hs (fun x => (gf_pp_p hm x).symm))
  have inner : ∀ (Q : Int32 → Int32 → Prop) (i : Nat), i < m.length → (∀ s, gf_mi (gf_pq m (fun i' j' => i' < j' ∧ i' < i + 1)) s → Q (gf_cx s) (nI (i + 1))) → ∀ d j s, i < j → j + d = m.length → gf_mi (gf_pq m (fun i' j' => i' < j' ∧ (i' < i ∨ (i' = i ∧ j' < j)))) s → wX_closest_27 post Q (nI i) (nI m.length) P V (d + 1) (gf_cx s) (nI j) := by
    intro Q i hi hQ d
    induction d with
    | zero =>
      intro j s hij hj hs
      refine br_t (nI_le (by omega) (by omega)) (nm_r (nI_1 i) (hQ s (gf_mi_c hs (gf_pq_c ?_))))
      intro i' j' h1 h2
      omega
    | succ d ih =>
      intro j s hij hj hs
      have ei : m[i]? = some m[i] := List.getElem?_eq_getElem hi
      have ej : m[j]? = some m[j] := List.getElem?_eq_getElem (by omega)
      have vi : vp_in (nI i) 40 := vp_in_nI (by omega) (by omega)
      have vj : vp_in (nI j) 40 := vp_in_nI (by omega) (by omega)
      have hd := gf_dn_lt (hG'.2.1 _ (gf_mem ei)) (hG'.2.1 _ (gf_mem ej))
      have nx := ih (j + 1) (gf_st s (gf_dn m[i].1 m[j].1)) (by omega) (by omega) (gf_mi_st hs (gf_pq_s ei ej (by intro i' j'; omega)))
      refine br_f (nI_ge (by omega) (by omega)) ⟨vi, vj, xdn (gf_Xc hX hl ei).1 (gf_Xc hX hl ej).1 (hG'.2.1 _ (gf_mem ei)) (hG'.2.1 _ (gf_mem ej)) ?_⟩
      cases s with
      | none => exact br_f (nI_ge (b := 2147483647) (by omega) (by decide)) (nm_r (nI_1 j) nx)
      | some k =>
        have hk := gf_pq_lt hG' hs.1
        refine pk_le k (gf_dn m[i].1 m[j].1) (fun z => nm_r (nI_1 j) ?_) (fun z => nm_r (nI_1 j) ?_)
        · rw [show gf_st (some k) (gf_dn m[i].1 m[j].1) = some k from if_pos z] at nx
          exact nx
        · rw [show gf_st (some k) (gf_dn m[i].1 m[j].1) = some (gf_dn m[i].1 m[j].1) from if_neg (by omega)] at nx
          exact nx
  have outer : (∀ s, gf_mi (gf_pp m) s → post (gf_cx s)) → ∀ d i s, i + d = m.length → gf_mi (gf_pq m (fun i' j' => i' < j' ∧ i' < i)) s → wX_closest_15 post (nI m.length) P V (d + 1) (gf_cx s) (nI i) := by
    intro hq d
    induction d with
    | zero =>
      intro i s hi hs
      refine br_t (nI_le (by omega) (by omega)) (hq s (gf_mi_c hs (gf_pq_x hG'.1 ?_ ?_)))
      · intro i' j' r; omega
      · intro i' j' h1 h2 h3; omega
    | succ d ih =>
      intro i s hi hs
      refine br_f (nI_ge (by omega) (by omega)) (nm_r (nI_1 i) ⟨m.length - (i + 1) + 1, ?_⟩)
      refine inner _ i (by omega) (fun s' hs' => ih (i + 1) s' (by omega) hs') (m.length - (i + 1)) (i + 1) s (by omega) (by omega) (gf_mi_c hs (gf_pq_c ?_))
      intro i' j' h1 h2
      omega
  unfold wpX_closest
  dsimp only
  refine pk_le 2 m.length (fun z => ⟨m.length + 1, ?_⟩) (fun z => ?_)
  · refine outer ?_ m.length 0 none (by omega) ?_
    · intro s hs
      cases s with
      | none =>
        have e0 : m[0]? = some m[0] := List.getElem?_eq_getElem (by omega)
        have e1 : m[1]? = some m[1] := List.getElem?_eq_getElem (by omega)
        exact absurd ⟨m[0], m[1], gf_mem e0, gf_mem e1, gf_pw.mp hG'.1 0 1 _ _ (by omega) e0 e1, rfl⟩ (hs _)
      | some k => exact hp (some k) hs
    · intro d ⟨i, j, a, b, r, _⟩
      omega
  · refine hp none ?_
    intro d ⟨a, b, ha, hb, hn, _⟩
    obtain ⟨i, ei⟩ := gf_idx ha
    obtain ⟨j, ej⟩ := gf_idx hb
    have h1 := gf_lt ei
    have h2 := gf_lt ej
    have e : i = j := by omega
    subst e
    cases Option.some.inj (ei.symm.trans ej)
    exact hn rfl
theorem ycs {post : Int32 → Prop} {l : List (Nat × Int32)} {u : SY} (hG : gf_G l) (hA : gf_AY l u) (h : ∀ s, gf_mi (gf_pp l) s → post (gf_ca s)) : wpY_closest post u := by
  obtain ⟨m, A, B, C, rfl, hY, hm⟩ := hA
  have hG' := gf_Gp hm.symm hG
  have hl := hG'.2.2
  have hp : ∀ s, gf_mi (gf_pp m) s → post (gf_ca s) := fun s hs => h s (gf_mi_c hs (fun x => (gf_pp_p hm x).symm))
  have inner : ∀ (Q : Int32 → Int32 → Prop) (i : Nat), i < m.length → (∀ s, gf_mi (gf_pq m (fun i' j' => j' < i' ∧ i' < i + 1)) s → Q (gf_ca s) (nI (i + 1))) → ∀ d j s, j + d = i → gf_mi (gf_pq m (fun i' j' => j' < i' ∧ (i' < i ∨ (i' = i ∧ j' < j)))) s → wY_closest_20 post Q (nI i) (nI m.length) A B C (d + 1) (gf_ca s) (nI j) := by
    intro Q i hi hQ d
    induction d with
    | zero =>
      intro j s hj hs
      refine br_t (nI_le (by omega) (by omega)) (nm_r (nI_1 i) (hQ s (gf_mi_c hs (gf_pq_c ?_))))
      intro i' j' h1 h2
      omega
    | succ d ih =>
      intro j s hj hs
      have ei : m[i]? = some m[i] := List.getElem?_eq_getElem hi
      have ej : m[j]? = some m[j] := List.getElem?_eq_getElem (by omega)
      have vi : vp_in (nI i) 40 := vp_in_nI (by omega) (by omega)
      have vj : vp_in (nI j) 40 := vp_in_nI (by omega) (by omega)
      have hd := gf_dn_lt (hG'.2.1 _ (gf_mem ei)) (hG'.2.1 _ (gf_mem ej))
      have nx := ih (j + 1) (gf_st s (gf_dn m[i].1 m[j].1)) (by omega) (gf_mi_st hs (gf_pq_s ei ej (by intro i' j'; omega)))
      have cj := gf_Yc hY hl ej
      refine br_f (nI_ge (by omega) (by omega)) ⟨vj, vj, ydn (q := m[j].1) hY hl ei cj.1 cj.2.1 ?_⟩
      cases s with
      | none => exact br_t (by decide) (nm_r (nI_1 j) nx)
      | some k =>
        have hk := gf_pq_lt hG' hs.1
        refine br_f (nI_pos (by omega)) (pk_le k (gf_dn m[i].1 m[j].1) (fun z => nm_r (nI_1 j) ?_) (fun z => nm_r (nI_1 j) ?_))
        · rw [show gf_st (some k) (gf_dn m[i].1 m[j].1) = some k from if_pos z] at nx
          exact nx
        · rw [show gf_st (some k) (gf_dn m[i].1 m[j].1) = some (gf_dn m[i].1 m[j].1) from if_neg (by omega)] at nx
          exact nx
  have outer : ∀ d i s, i + d = m.length → gf_mi (gf_pq m (fun i' j' => j' < i' ∧ i' < i)) s → wY_closest_4 post (nI m.length) A B C (d + 1) (gf_ca s) (nI i) := by
    intro d
    induction d with
    | zero =>
      intro i s hi hs
      refine br_t (nI_le (by omega) (by omega)) (hp s (gf_mi_c hs (gf_pq_x hG'.1 ?_ ?_)))
      · intro i' j' r; omega
      · intro i' j' h1 h2 h3; omega
    | succ d ih =>
      intro i s hi hs
      refine br_f (nI_ge (by omega) (by omega)) (br_f (nI_ge (b := 40) (by omega) (by decide)) ⟨i + 1, ?_⟩)
      refine inner _ i (by omega) (fun s' hs' => ih (i + 1) s' (by omega) hs') i 0 s (by omega) (gf_mi_c hs (gf_pq_c ?_))
      intro i' j' h1 h2
      omega
  unfold wpY_closest
  dsimp only
  refine ⟨m.length + 1, outer m.length 0 none (by omega) ?_⟩
  intro d ⟨i, j, a, b, r, _⟩
  omega
end
section
/-- the two states hold the same points: the component's in rising order of places, the reference's in any -/
def i_Rel (k : Nat) (u : SX) (v : SY) : Prop := ∃ l, gf_G l ∧ gf_AX l u ∧ gf_AY l v
theorem i_up {k : Nat} {u : SX} {v : SY} (h : i_Rel k u v) : i_Rel (k + 4) u v := h
theorem i_vc0 : wpX_init (fun u => wpY_init (fun v => i_Rel 0 u v)) :=
  ⟨[], ⟨List.Pairwise.nil, fun a h => (by cases h), by decide⟩, ⟨[], _, _, rfl, fun i a e => (by rw [List.getElem?_nil] at e; cases e), List.Pairwise.nil, List.Perm.refl _⟩, ⟨[], _, _, _, rfl, fun i a e => (by rw [List.getElem?_nil] at e; cases e), List.Perm.refl _⟩⟩
theorem i_vc_put {k : Nat} {u : SX} {v : SY} (I : i_Rel k u v) (hk : k + 4 ≤ 2048) (v1 : Int32) (v2 : Int32) (v3 : Int32) : wpX_put (fun r u' => wpY_put (fun r' v' => r' = r ∧ i_Rel (k + 4) u' v') v v1 v2 v3) u v1 v2 v3 := by
  obtain ⟨l, hG, hX, hY⟩ := I
  by_cases hc : gf_C v1 ∧ gf_C v2
  · obtain ⟨⟨a, ha, rfl⟩, b, hb, rfl⟩ := hc
    refine xput hG hX ha hb (fun u' hu => yput hG hY ha hb (fun v' hv => ⟨rfl, _, gf_put_G hG (by omega) v3, hu, hv⟩))
  · exact xput_f hc (yput_f hc ⟨rfl, l, hG, hX, hY⟩)
theorem i_vc_remove {k : Nat} {u : SX} {v : SY} (I : i_Rel k u v) (hk : k + 4 ≤ 2048) (v1 : Int32) (v2 : Int32) : wpX_remove (fun r u' => wpY_remove (fun r' v' => r' = r ∧ i_Rel (k + 4) u' v') v v1 v2) u v1 v2 := by
  obtain ⟨l, hG, hX, hY⟩ := I
  by_cases hc : gf_C v1 ∧ gf_C v2
  · obtain ⟨⟨a, ha, rfl⟩, b, hb, rfl⟩ := hc
    refine xrm hG hX ha hb (fun h1 u' hu => yrm hG hY ha hb (fun _ v' hv => ⟨rfl, _, gf_Gf hG _, hu, hv⟩) (fun h0 => ?_)) (fun h0 => yrm hG hY ha hb (fun h1 => ?_) (fun _ => ⟨rfl, l, hG, hX, hY⟩))
    · rw [h1] at h0; cases h0
    · rw [h1] at h0; cases h0
  · exact xrm_f hc (yrm_f hc ⟨rfl, l, hG, hX, hY⟩)
theorem i_vc_clear {k : Nat} {u : SX} {v : SY} (I : i_Rel k u v) (hk : k + 4 ≤ 2048) (v1 : Int32) (v2 : Int32) : wpX_clear (fun r u' => wpY_clear (fun r' v' => r' = r ∧ i_Rel (k + 4) u' v') v v1 v2) u v1 v2 := by
  obtain ⟨l, hG, hX, hY⟩ := I
  by_cases hc : gf_R v1 v2
  · obtain ⟨lo, hi, hlo, hhi, rfl, rfl, r1, r2⟩ := hc
    exact xcl hG hX hlo hhi r1 r2 (fun u' hu => ycl hG hY hlo hhi r1 r2 (fun v' hv => ⟨rfl, _, gf_Gf hG _, hu, hv⟩))
  · exact xcl_f hc (ycl_f hc ⟨rfl, l, hG, hX, hY⟩)
theorem i_vc_scatter {k : Nat} {u : SX} {v : SY} (I : i_Rel k u v) (hk : k + 4 ≤ 2048) (v1 : Int32) (v2 : Int32) (v3 : Int32) : wpX_scatter (fun r u' => wpY_scatter (fun r' v' => r' = r ∧ i_Rel (k + 4) u' v') v v1 v2 v3) u v1 v2 v3 := by
  obtain ⟨l, hG, hX, hY⟩ := I
  by_cases hc : gf_P v1
  · obtain ⟨p, hp, rfl⟩ := hc
    by_cases hw : gf_W v2
    · obtain ⟨m, hm, em⟩ := gf_W_m hw
      exact xsc hG hX hp hw hm em (fun u' hu => ysc hG hY hp hw hm em (fun v' hv => ⟨rfl, _, gf_sc_G (gf_g_lt _ _ _) _ _ _ hG, hu, hv⟩))
    · exact xsc_f2 hp hw (ysc_f2 hp hw ⟨rfl, l, hG, hX, hY⟩)
  · exact xsc_f1 hc (ysc_f1 hc ⟨rfl, l, hG, hX, hY⟩)
theorem i_vc_move {k : Nat} {u : SX} {v : SY} (I : i_Rel k u v) (hk : k + 4 ≤ 2048) (v1 : Int32) (v2 : Int32) : wpX_move (fun r u' => wpY_move (fun r' v' => r' = r ∧ i_Rel (k + 4) u' v') v v1 v2) u v1 v2 := by
  obtain ⟨l, hG, hX, hY⟩ := I
  by_cases hc : gf_P v1 ∧ gf_P v2
  · obtain ⟨⟨p, hp, rfl⟩, q, hq, rfl⟩ := hc
    cases hhp : gf_h l p with
    | false =>
      refine xmv hG hX hp hq (fun _ => ymv hG hY hp hq (fun _ => ⟨rfl, l, hG, hX, hY⟩) (fun z => ?_) (fun z => ?_)) (fun z => ?_) (fun z => ?_)
      all_goals (rw [hhp] at z; cases z)
    | true =>
      cases hhq : gf_h l q with
      | false =>
        refine xmv hG hX hp hq (fun z => ?_) (fun _ z => ?_) (fun _ _ u' hu => ymv hG hY hp hq (fun z => ?_) (fun _ z => ?_) (fun _ _ v' hv => ⟨rfl, _, gf_mv_G hG hq hhp hhq, hu, hv⟩))
        all_goals first | (rw [hhp] at z; cases z) | (rw [hhq] at z; cases z)
      | true =>
        refine xmv hG hX hp hq (fun z => ?_) (fun _ _ => ymv hG hY hp hq (fun z => ?_) (fun _ _ => ⟨rfl, l, hG, hX, hY⟩) (fun _ z => ?_)) (fun _ z => ?_)
        all_goals first | (rw [hhp] at z; cases z) | (rw [hhq] at z; cases z)
  · exact xmv_f hc (ymv_f hc ⟨rfl, l, hG, hX, hY⟩)
theorem i_vc_size {k : Nat} {u : SX} {v : SY} (I : i_Rel k u v) (hk : k + 4 ≤ 2048) : wpX_size (fun r => wpY_size (fun r' => r' = r ∧ i_Rel (k + 4) u v) v) u := by
  obtain ⟨l, hG, hX, hY⟩ := I
  exact xsz hX (ysz hY ⟨rfl, l, hG, hX, hY⟩)
theorem i_vc_has {k : Nat} {u : SX} {v : SY} (I : i_Rel k u v) (hk : k + 4 ≤ 2048) (v1 : Int32) (v2 : Int32) : wpX_has (fun r => wpY_has (fun r' => r' = r ∧ i_Rel (k + 4) u v) v v1 v2) u v1 v2 := by
  obtain ⟨l, hG, hX, hY⟩ := I
  by_cases hc : gf_C v1 ∧ gf_C v2
  · obtain ⟨⟨a, ha, rfl⟩, b, hb, rfl⟩ := hc
    refine xha hG hX ha hb (fun h1 => yha hG hY ha hb (fun _ => ⟨rfl, l, hG, hX, hY⟩) (fun h0 => ?_)) (fun h0 => yha hG hY ha hb (fun h1 => ?_) (fun _ => ⟨rfl, l, hG, hX, hY⟩))
    · rw [h1] at h0; cases h0
    · rw [h1] at h0; cases h0
  · exact xha_f hc (yha_f hc ⟨rfl, l, hG, hX, hY⟩)
theorem i_vc_valueAt {k : Nat} {u : SX} {v : SY} (I : i_Rel k u v) (hk : k + 4 ≤ 2048) (v1 : Int32) (v2 : Int32) : wpX_valueAt (fun r => wpY_valueAt (fun r' => r' = r ∧ i_Rel (k + 4) u v) v v1 v2) u v1 v2 := by
  obtain ⟨l, hG, hX, hY⟩ := I
  by_cases hc : gf_C v1 ∧ gf_C v2
  · obtain ⟨⟨a, ha, rfl⟩, b, hb, rfl⟩ := hc
    refine xva hG hX ha hb (fun p hp ep => yva hG hY ha hb (fun q hq eq => ⟨?_, l, hG, hX, hY⟩) (fun h0 => ?_)) (fun h0 => yva hG hY ha hb (fun q hq eq => ?_) (fun _ => ⟨rfl, l, hG, hX, hY⟩))
    · rw [gf_Dm hG.1 hq hp (eq.trans ep.symm)]
    · exact absurd ep (gf_h_n h0 p hp)
    · exact absurd eq (gf_h_n h0 q hq)
  · exact xva_f hc (yva_f hG hY hc ⟨rfl, l, hG, hX, hY⟩)
theorem xct_f {post : Int32 → Prop} {u : SX} {x y : Int32} (hc : ¬ gf_R x y) (h : post (-1)) : wpX_count post u x y := by
  obtain ⟨f, P, V⟩ := u
  unfold wpX_count
  dsimp only
  exact xr_f hc (br_t rfl h)
theorem yct_f {post : Int32 → Prop} {u : SY} {x y : Int32} (hc : ¬ gf_R x y) (h : post (-1)) : wpY_count post u x y := by
  obtain ⟨f, A, B, C⟩ := u
  unfold wpY_count
  dsimp only
  exact yr_f hc (br_f (by decide) h)
theorem i_vc_count {k : Nat} {u : SX} {v : SY} (I : i_Rel k u v) (hk : k + 4 ≤ 2048) (v1 : Int32) (v2 : Int32) : wpX_count (fun r => wpY_count (fun r' => r' = r ∧ i_Rel (k + 4) u v) v v1 v2) u v1 v2 := by
  obtain ⟨l, hG, hX, hY⟩ := I
  by_cases hc : gf_R v1 v2
  · obtain ⟨lo, hi, hlo, hhi, rfl, rfl, r1, r2⟩ := hc
    exact xct hG hX hlo hhi r1 r2 (yct hG hY hlo hhi r1 r2 ⟨rfl, l, hG, hX, hY⟩)
  · exact xct_f hc (yct_f hc ⟨rfl, l, hG, hX, hY⟩)
theorem xsu_f {post : Int32 → Prop} {u : SX} {x y : Int32} (hc : ¬ gf_R x y) (h : post 0) : wpX_sum post u x y := by
  obtain ⟨f, P, V⟩ := u
  unfold wpX_sum
  dsimp only
  exact xr_f hc (br_t rfl h)
theorem ysu_f {post : Int32 → Prop} {u : SY} {x y : Int32} (hc : ¬ gf_R x y) (h : post 0) : wpY_sum post u x y := by
  obtain ⟨f, A, B, C⟩ := u
  unfold wpY_sum
  dsimp only
  exact yr_f hc (br_f (by decide) h)
theorem i_vc_sum {k : Nat} {u : SX} {v : SY} (I : i_Rel k u v) (hk : k + 4 ≤ 2048) (v1 : Int32) (v2 : Int32) : wpX_sum (fun r => wpY_sum (fun r' => r' = r ∧ i_Rel (k + 4) u v) v v1 v2) u v1 v2 := by
  obtain ⟨l, hG, hX, hY⟩ := I
  by_cases hc : gf_R v1 v2
  · obtain ⟨lo, hi, hlo, hhi, rfl, rfl, r1, r2⟩ := hc
    exact xsu hG hX hlo hhi r1 r2 (ysu hG hY hlo hhi r1 r2 ⟨rfl, l, hG, hX, hY⟩)
  · exact xsu_f hc (ysu_f hc ⟨rfl, l, hG, hX, hY⟩)
theorem xmo_f {post : Int32 → Prop} {u : SX} {x y : Int32} (hc : ¬ gf_R x y) (h : post (-2147483648)) : wpX_most post u x y := by
  obtain ⟨f, P, V⟩ := u
  unfold wpX_most
  dsimp only
  exact xr_f hc (br_t rfl h)
theorem ymo_f {post : Int32 → Prop} {u : SY} {x y : Int32} (hc : ¬ gf_R x y) (h : post (-2147483648)) : wpY_most post u x y := by
  obtain ⟨f, A, B, C⟩ := u
  unfold wpY_most
  dsimp only
  exact yr_f hc (br_f (by decide) h)
theorem i_vc_most {k : Nat} {u : SX} {v : SY} (I : i_Rel k u v) (hk : k + 4 ≤ 2048) (v1 : Int32) (v2 : Int32) : wpX_most (fun r => wpY_most (fun r' => r' = r ∧ i_Rel (k + 4) u v) v v1 v2) u v1 v2 := by
  obtain ⟨l, hG, hX, hY⟩ := I
  by_cases hc : gf_R v1 v2
  · obtain ⟨lo, hi, hlo, hhi, rfl, rfl, r1, r2⟩ := hc
    exact xmo hG hX hlo hhi r1 r2 (ymo hG hY hlo hhi r1 r2 ⟨rfl, l, hG, hX, hY⟩)
  · exact xmo_f hc (ymo_f hc ⟨rfl, l, hG, hX, hY⟩)
theorem xpt_f {post : Int32 → Prop} {u : SX} {x y z : Int32} (hc : ¬ gf_R x y) (h : post (-1)) : wpX_point post u x y z := by
  obtain ⟨f, P, V⟩ := u
  unfold wpX_point
  dsimp only
  exact xr_f hc (br_t rfl h)
theorem ypt_f {post : Int32 → Prop} {u : SY} {x y z : Int32} (hc : ¬ gf_R x y) (h : post (-1)) : wpY_point post u x y z := by
  obtain ⟨f, A, B, C⟩ := u
  unfold wpY_point
  dsimp only
  exact yr_f hc (br_f (by decide) h)
theorem i_vc_point {k : Nat} {u : SX} {v : SY} (I : i_Rel k u v) (hk : k + 4 ≤ 2048) (v1 : Int32) (v2 : Int32) (v3 : Int32) : wpX_point (fun r => wpY_point (fun r' => r' = r ∧ i_Rel (k + 4) u v) v v1 v2 v3) u v1 v2 v3 := by
  obtain ⟨l, hG, hX, hY⟩ := I
  by_cases hc : gf_R v1 v2
  · obtain ⟨lo, hi, hlo, hhi, rfl, rfl, r1, r2⟩ := hc
    exact xpt hG hX hlo hhi r1 r2 (fun m hS hm => ypt hG hY hlo hhi r1 r2 hS hm ⟨rfl, l, hG, hX, hY⟩)
  · exact xpt_f hc (ypt_f hc ⟨rfl, l, hG, hX, hY⟩)
theorem i_vc_nearest {k : Nat} {u : SX} {v : SY} (I : i_Rel k u v) (hk : k + 4 ≤ 2048) (v1 : Int32) (v2 : Int32) : wpX_nearest (fun r => wpY_nearest (fun r' => r' = r ∧ i_Rel (k + 4) u v) v v1 v2) u v1 v2 := by
  obtain ⟨l, hG, hX, hY⟩ := I
  by_cases hc : gf_C v1 ∧ gf_C v2
  · obtain ⟨⟨a, ha, rfl⟩, b, hb, rfl⟩ := hc
    exact xne hG hX ha hb (yne hG hY ha hb ⟨rfl, l, hG, hX, hY⟩)
  · exact xne_f hc (yne_f hc ⟨rfl, l, hG, hX, hY⟩)
theorem i_vc_within {k : Nat} {u : SX} {v : SY} (I : i_Rel k u v) (hk : k + 4 ≤ 2048) (v1 : Int32) (v2 : Int32) (v3 : Int32) : wpX_within (fun r => wpY_within (fun r' => r' = r ∧ i_Rel (k + 4) u v) v v1 v2 v3) u v1 v2 v3 := by
  obtain ⟨l, hG, hX, hY⟩ := I
  by_cases hc : gf_C v1 ∧ gf_C v2
  · obtain ⟨⟨a, ha, rfl⟩, b, hb, rfl⟩ := hc
    exact xwi hG hX ha hb (ywi hG hY ha hb ⟨rfl, l, hG, hX, hY⟩)
  · exact xwi_f hc (ywi_f hc ⟨rfl, l, hG, hX, hY⟩)
theorem i_vc_closest {k : Nat} {u : SX} {v : SY} (I : i_Rel k u v) (hk : k + 4 ≤ 2048) : wpX_closest (fun r => wpY_closest (fun r' => r' = r ∧ i_Rel (k + 4) u v) v) u := by
  obtain ⟨l, hG, hX, hY⟩ := I
  exact xcs hG hX (fun s hs => ycs hG hY (fun t ht => ⟨by rw [gf_mi_u hs ht], l, hG, hX, hY⟩))
theorem i_vc_line {k : Nat} {u : SX} {v : SY} (I : i_Rel k u v) (hk : k + 4 ≤ 2048) (v1 : Int32) (v2 : Int32) : wpX_line (fun r => wpY_line (fun r' => r' = r ∧ i_Rel (k + 4) u v) v v1 v2) u v1 v2 := by
  obtain ⟨l, hG, hX, hY⟩ := I
  by_cases hv : v1 = 0 ∨ v1 = 1
  · by_cases hc : gf_C v2
    · exact xli hG hX hv hc (yli hG hY hv hc ⟨rfl, l, hG, hX, hY⟩)
    · exact xli_f2 hv hc (yli_f2 hv hc ⟨rfl, l, hG, hX, hY⟩)
  · exact xli_f1 hv (yli_f1 hv ⟨rfl, l, hG, hX, hY⟩)
theorem i_vc_frontier {k : Nat} {u : SX} {v : SY} (I : i_Rel k u v) (hk : k + 4 ≤ 2048) : wpX_frontier (fun r => wpY_frontier (fun r' => r' = r ∧ i_Rel (k + 4) u v) v) u := by
  obtain ⟨l, hG, hX, hY⟩ := I
  exact xfr hG hX (yfr hG hY ⟨rfl, l, hG, hX, hY⟩)
end
