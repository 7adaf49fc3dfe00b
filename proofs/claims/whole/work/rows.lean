section
theorem pk_us {f : Nat → Int32} {k : Nat} {x : Int32} : upd f k x k = x := if_pos rfl
theorem pk_un {f : Nat → Int32} {k j : Nat} {x : Int32} (h : j ≠ k) : upd f k x j = f j := if_neg h
theorem pk_sub {a b : Nat} (h : b ≤ a) : nI a - nI b = nI (a - b) := by
  obtain ⟨c, rfl⟩ : ∃ c, a = c + b := ⟨a - b, by omega⟩
  rw [← nI_add, Int32.add_sub_cancel, Nat.add_sub_cancel]
theorem pk_m1 (n : Nat) : nI (n + 1) + (-1) = nI n := by
  rw [← nI_1, Int32.add_assoc, show (1 : Int32) + (-1) = 0 from rfl, Int32.add_zero]
theorem pk_mul (a b : Nat) : nI a * nI b = nI (a * b) := (Int32.ofNat_mul a b).symm
theorem pk_div {a d : Nat} (ha : a < 2 ^ 31) (h0 : 0 < d) (hd : d < 2 ^ 31) : nI a / nI d = nI (a / d) := by
  apply Int32.toInt_inj.mp
  rw [lg_idiv_nonneg (by rw [nI_toInt ha]; omega) (by rw [nI_toInt hd]; omega), nI_toInt ha, nI_toInt hd, nI_toInt (Nat.lt_of_le_of_lt (Nat.div_le_self a d) ha)]
  first | rfl | exact (Int.natCast_ediv _ _).symm
theorem pk_rem {a d : Nat} (ha : a < 2 ^ 31) (h0 : 0 < d) (hd : d < 2 ^ 31) : nI a - nI a / nI d * nI d = nI (a % d) := by
  rw [pk_div ha h0 hd, pk_mul, pk_sub (Nat.div_mul_le_self a d)]
  exact congrArg nI (by have := Nat.div_add_mod' a d; omega)
theorem pk_le {x y : Int32} {A B : Prop} (a b : Nat) (f : a ≤ b → A) (g : b < a → B) (hx : x = nI a := by rfl) (hy : y = nI b := by rfl) (ha : a < 2 ^ 31 := by omega) (hb : b < 2 ^ 31 := by omega) : (x ≤ y → A) ∧ (¬ x ≤ y → B) := by
  subst hx hy
  rw [nI_leI ha hb]
  exact ⟨f, fun z => g (by omega)⟩
theorem pk_lt {x y : Int32} {A B : Prop} (a b : Nat) (f : a < b → A) (g : b ≤ a → B) (hx : x = nI a := by rfl) (hy : y = nI b := by rfl) (ha : a < 2 ^ 31 := by omega) (hb : b < 2 ^ 31 := by omega) : (x < y → A) ∧ (¬ x < y → B) := by
  subst hx hy
  rw [nI_ltI ha hb]
  exact ⟨f, fun z => g (by omega)⟩
theorem pk_eq {x y : Int32} {A B : Prop} (a b : Nat) (f : a = b → A) (g : a ≠ b → B) (hx : x = nI a := by rfl) (hy : y = nI b := by rfl) (ha : a < 2 ^ 31 := by omega) (hb : b < 2 ^ 31 := by omega) : (x = y → A) ∧ (¬ x = y → B) := by
  subst hx hy
  rw [nI_eq ha hb]
  exact ⟨f, g⟩
theorem pk_in {x : Int32} (n N : Nat) (h : n < N) (hx : x = nI n := by rfl) (hN : N < 2 ^ 31 := by omega) : vp_in x N := by
  subst hx
  exact vp_in_nI h hN
theorem pk_cl {x : Int32} (n : Nat) (hx : x = nI n := by rfl) (h : n < 2 ^ 31 := by omega) : x.toNatClampNeg = n := by
  subst hx
  exact nI_clamp h
theorem pk_tn {n : Nat} (h : n < 2 ^ 32) : (nI n).toBitVec.toNat = n := Nat.mod_eq_of_lt h
theorem pk_and (x : Int32) {m : Int32} (k : Nat) (hm : m.toBitVec.toNat = 2 ^ k - 1) : x &&& m = nI (x.toBitVec.toNat % 2 ^ k) := by
  apply Int32.toBitVec_inj.mp
  apply BitVec.eq_of_toNat_eq
  rw [Int32.toBitVec_and, BitVec.toNat_and, hm, Nat.and_two_pow_sub_one_eq_mod]
  show _ = (BitVec.ofNat 32 _).toNat
  rw [BitVec.toNat_ofNat]
  exact (Nat.mod_eq_of_lt (Nat.lt_of_le_of_lt (Nat.mod_le _ _) x.toBitVec.isLt)).symm
theorem pk_andE (x : Int32) {m : Int32} (k : Nat) (hm : m.toBitVec.toNat = 2 ^ k - 1) : ∃ j : Nat, j < 2 ^ k ∧ x &&& m = nI j := ⟨_, Nat.mod_lt _ (Nat.two_pow_pos k), pk_and x k hm⟩
theorem gf_div {a : Nat} (h : a < 1024) : nI a / 32 = nI (a / 32) := pk_div (d := 32) (by omega) (by decide) (by decide)
theorem gf_rem {a : Nat} (h : a < 1024) : nI a - nI a / 32 * 32 = nI (a % 32) := pk_rem (d := 32) (by omega) (by decide) (by decide)
theorem gf_pl (a b : Nat) : 32 * nI a + nI b = nI (32 * a + b) := by
  rw [show (32 : Int32) = nI 32 from rfl, pk_mul, nI_add]
theorem gf_n0 {a b : Prop} (h : ¬ (a ∧ b)) (x : a) : ¬ b := fun y => h ⟨x, y⟩
/-- a loop over a list, as a fold, with a side condition -/
theorem gf_loop {σ α : Type} (W : Nat → σ → Nat → Prop) (l : List α) (f : σ → α → σ) (J : Nat → σ → Prop) (post : σ → Prop)
    (hx : ∀ n s, J l.length s → post s → W (n + 1) s l.length)
    (hs : ∀ n s i a, l[i]? = some a → J i s → W n (f s a) (i + 1) → W (n + 1) s i)
    (hJ : ∀ s i a, l[i]? = some a → J i s → J (i + 1) (f s a)) (s : σ) (h0 : J 0 s) (hp : post (l.foldl f s)) : W (l.length + 1) s 0 := by
  have key : ∀ d i s, i + d = l.length → J i s → post ((l.drop i).foldl f s) → W (d + 1) s i := by
    intro d
    induction d with
    | zero =>
      intro i s hi hj hp
      have e : i = l.length := by omega
      subst e
      rw [List.drop_length] at hp
      exact hx 0 s hj hp
    | succ d ih =>
      intro i s hi hj hp
      have hlt : i < l.length := by omega
      rw [List.drop_eq_getElem_cons hlt, List.foldl_cons] at hp
      have e : l[i]? = some l[i] := List.getElem?_eq_getElem hlt
      exact hs (d + 1) s i l[i] e hj (ih (i + 1) _ (by omega) (hJ s i _ e hj) hp)
  exact key l.length 0 s (by omega) h0 (by rw [List.drop_zero]; exact hp)
/-- a loop over a list that counts -/
theorem gf_count {α : Type} (W : Nat → Nat → Nat → Prop) (l : List α) (p : α → Bool) (post : Nat → Prop)
    (hx : ∀ n s, post s → W (n + 1) s l.length)
    (hs : ∀ n s i a, l[i]? = some a → (p a = true → W n (s + 1) (i + 1)) → (p a = false → W n s (i + 1)) → W (n + 1) s i)
    (hp : post (l.countP p)) : ∃ n, W n 0 0 := by
  have key : ∀ d i s, i + d = l.length → post (s + (l.drop i).countP p) → W (d + 1) s i := by
    intro d
    induction d with
    | zero =>
      intro i s hi hp
      have e : i = l.length := by omega
      subst e
      rw [List.drop_length, List.countP_nil] at hp
      exact hx 0 s hp
    | succ d ih =>
      intro i s hi hp
      have hlt : i < l.length := by omega
      rw [List.drop_eq_getElem_cons hlt] at hp
      have e : l[i]? = some l[i] := List.getElem?_eq_getElem hlt
      refine hs (d + 1) s i l[i] e (fun h => ih (i + 1) _ (by omega) ?_) (fun h => ih (i + 1) _ (by omega) ?_)
      · rw [List.countP_cons_of_pos h] at hp
        rw [show s + 1 + List.countP p (List.drop (i + 1) l) = s + (List.countP p (List.drop (i + 1) l) + 1) by omega]
        exact hp
      · rw [List.countP_cons_of_neg (by rw [h]; decide)] at hp
        exact hp
  exact ⟨l.length + 1, key l.length 0 0 (by omega) (by rw [List.drop_zero, Nat.zero_add]; exact hp)⟩
theorem gf_pw {α : Type} {R : α → α → Prop} {l : List α} : l.Pairwise R ↔ ∀ (i j : Nat) (a b : α), i < j → l[i]? = some a → l[j]? = some b → R a b := by
  rw [List.pairwise_iff_getElem]
  constructor
  · intro h i j a b hij ha hb
    obtain ⟨hi, rfl⟩ := List.getElem?_eq_some_iff.mp ha
    obtain ⟨hj, rfl⟩ := List.getElem?_eq_some_iff.mp hb
    exact h i j hi hj hij
  · intro h i j hi hj hij
    exact h i j _ _ hij (List.getElem?_eq_getElem hi) (List.getElem?_eq_getElem hj)
theorem gf_lt {α : Type} {l : List α} {i : Nat} {a : α} (h : l[i]? = some a) : i < l.length := (List.getElem?_eq_some_iff.mp h).1
theorem gf_mem {α : Type} {l : List α} {i : Nat} {a : α} (h : l[i]? = some a) : a ∈ l := List.mem_of_getElem? h
theorem gf_idx {α : Type} {l : List α} {a : α} (h : a ∈ l) : ∃ i : Nat, l[i]? = some a := List.mem_iff_getElem?.mp h
/-- distinct places -/
def gf_D (l : List (Nat × Int32)) : Prop := l.Pairwise (fun a b => a.1 ≠ b.1)
def gf_S (l : List (Nat × Int32)) : Prop := l.Pairwise (fun a b => a.1 < b.1)
def gf_G (l : List (Nat × Int32)) : Prop := gf_D l ∧ (∀ a ∈ l, a.1 < 1024) ∧ l.length ≤ 40
theorem gf_Dp {l m : List (Nat × Int32)} (h : l.Perm m) (hD : gf_D l) : gf_D m := List.Perm.pairwise h hD (fun x => Ne.symm x)
theorem gf_Gp {l m : List (Nat × Int32)} (h : l.Perm m) (hG : gf_G l) : gf_G m :=
  ⟨gf_Dp h hG.1, fun a ha => hG.2.1 a (h.mem_iff.mpr ha), by rw [← h.length_eq]; exact hG.2.2⟩
theorem gf_Du {l : List (Nat × Int32)} (hD : gf_D l) {i j : Nat} {a b : Nat × Int32} (ha : l[i]? = some a) (hb : l[j]? = some b) (e : a.1 = b.1) : i = j := by
  rcases Nat.lt_trichotomy i j with h | h | h
  · exact absurd e (gf_pw.mp hD i j a b h ha hb)
  · exact h
  · exact absurd e.symm (gf_pw.mp hD j i b a h hb ha)
theorem gf_Dm {l : List (Nat × Int32)} (hD : gf_D l) {a b : Nat × Int32} (ha : a ∈ l) (hb : b ∈ l) (e : a.1 = b.1) : a = b := by
  obtain ⟨i, hi⟩ := gf_idx ha
  obtain ⟨j, hj⟩ := gf_idx hb
  have := gf_Du hD hi hj e
  subst this
  exact Option.some.inj (hi.symm.trans hj)
/-- is there a point at q -/
def gf_h (l : List (Nat × Int32)) (q : Nat) : Bool := l.any (fun a => decide (a.1 = q))
theorem gf_h_t {l : List (Nat × Int32)} {q : Nat} {a : Nat × Int32} (h : a ∈ l) (e : a.1 = q) : gf_h l q = true :=
  List.any_eq_true.mpr ⟨a, h, decide_eq_true e⟩
theorem gf_h_f {l : List (Nat × Int32)} {q : Nat} (h : ∀ a ∈ l, a.1 ≠ q) : gf_h l q = false :=
  List.any_eq_false.mpr (fun a ha => by rw [decide_eq_true_eq]; exact h a ha)
theorem gf_h_e {l : List (Nat × Int32)} {q : Nat} (h : gf_h l q = true) : ∃ a ∈ l, a.1 = q := by
  obtain ⟨a, ha, e⟩ := List.any_eq_true.mp h
  exact ⟨a, ha, of_decide_eq_true e⟩
theorem gf_h_n {l : List (Nat × Int32)} {q : Nat} (h : gf_h l q = false) : ∀ a ∈ l, a.1 ≠ q := by
  intro a ha e
  rw [gf_h_t ha e] at h
  cases h
theorem gf_h_p {l m : List (Nat × Int32)} (h : l.Perm m) (q : Nat) : gf_h l q = gf_h m q := h.any_eq
def gf_rp (q : Nat) (v : Int32) (a : Nat × Int32) : Nat × Int32 := if a.1 = q then (q, v) else a
theorem gf_rp1 (q : Nat) (v : Int32) (a : Nat × Int32) : (gf_rp q v a).1 = a.1 := by
  unfold gf_rp
  split
  · rename_i h; exact h.symm
  · rfl
/-- what put makes of the points -/
def gf_put (l : List (Nat × Int32)) (q : Nat) (v : Int32) : List (Nat × Int32) :=
  if gf_h l q = true then l.map (gf_rp q v) else if 40 ≤ l.length then l else (q, v) :: l
def gf_pr (l : List (Nat × Int32)) (q : Nat) : Int32 :=
  if gf_h l q = true then 0 else if 40 ≤ l.length then -2 else 1
theorem gf_put_p {l m : List (Nat × Int32)} (h : l.Perm m) (q : Nat) (v : Int32) : (gf_put l q v).Perm (gf_put m q v) := by
  unfold gf_put
  rw [gf_h_p h, h.length_eq]
  split
  · exact h.map _
  · split
    · exact h
    · exact h.cons _
theorem gf_pr_p {l m : List (Nat × Int32)} (h : l.Perm m) (q : Nat) : gf_pr l q = gf_pr m q := by
  unfold gf_pr
  rw [gf_h_p h, h.length_eq]
theorem gf_Gc {l : List (Nat × Int32)} (hG : gf_G l) {q : Nat} {v : Int32} (hq : q < 1024) (hn : ∀ a ∈ l, a.1 ≠ q) (hl : l.length < 40) : gf_G ((q, v) :: l) := by
  refine ⟨List.pairwise_cons.mpr ⟨fun a ha => Ne.symm (hn a ha), hG.1⟩, ?_, by rw [List.length_cons]; omega⟩
  intro a ha
  rcases List.mem_cons.mp ha with rfl | h
  · exact hq
  · exact hG.2.1 a h
theorem gf_put_G {l : List (Nat × Int32)} (hG : gf_G l) {q : Nat} (hq : q < 1024) (v : Int32) : gf_G (gf_put l q v) := by
  unfold gf_put
  split
  · refine ⟨List.pairwise_map.mpr ?_, ?_, by rw [List.length_map]; exact hG.2.2⟩
    · refine List.Pairwise.imp ?_ hG.1
      intro a b h
      rw [gf_rp1, gf_rp1]
      exact h
    · intro a ha
      obtain ⟨b, hb, rfl⟩ := List.mem_map.mp ha
      rw [gf_rp1]
      exact hG.2.1 b hb
  · rename_i h
    split
    · exact hG
    · exact gf_Gc hG hq (gf_h_n (by rw [Bool.not_eq_true] at h; exact h)) (by omega)
/-- the points without that at q -/
def gf_rm (l : List (Nat × Int32)) (q : Nat) : List (Nat × Int32) := l.filter (fun a => decide (a.1 ≠ q))
theorem gf_Gf {l : List (Nat × Int32)} (hG : gf_G l) (p : Nat × Int32 → Bool) : gf_G (l.filter p) :=
  ⟨List.Pairwise.filter p hG.1, fun a ha => hG.2.1 a (List.mem_filter.mp ha).1, Nat.le_trans (List.length_filter_le p l) hG.2.2⟩
theorem gf_rm_all {l : List (Nat × Int32)} {q : Nat} (h : ∀ a ∈ l, a.1 ≠ q) : gf_rm l q = l :=
  List.filter_eq_self.mpr (fun a ha => decide_eq_true (h a ha))
theorem gf_rm_n {l : List (Nat × Int32)} {q : Nat} : ∀ a ∈ gf_rm l q, a.1 ≠ q := fun _ ha => of_decide_eq_true (List.mem_filter.mp ha).2
theorem gf_rm_c {a : Nat × Int32} {l : List (Nat × Int32)} {q : Nat} (h : a.1 ≠ q) : gf_rm (a :: l) q = a :: gf_rm l q :=
  List.filter_cons_of_pos (decide_eq_true h)
theorem gf_rm_d {a : Nat × Int32} {l : List (Nat × Int32)} {q : Nat} (h : a.1 = q) : gf_rm (a :: l) q = gf_rm l q :=
  List.filter_cons_of_neg (by rw [decide_eq_true_eq]; exact fun z => z h)
theorem gf_er : ∀ (l : List (Nat × Int32)) (i : Nat) (a : Nat × Int32), gf_D l → l[i]? = some a → l.eraseIdx i = gf_rm l a.1
  | [], i, a, _, h => by rw [List.getElem?_nil] at h; cases h
  | b :: t, 0, a, hD, h => by
    rw [List.getElem?_cons_zero] at h
    cases h
    rw [List.eraseIdx_cons_zero, gf_rm_d rfl, gf_rm_all (fun c hc => Ne.symm ((List.pairwise_cons.mp hD).1 c hc))]
  | b :: t, i + 1, a, hD, h => by
    rw [List.getElem?_cons_succ] at h
    rw [List.eraseIdx_cons_succ, gf_rm_c ((List.pairwise_cons.mp hD).1 a (gf_mem h)), gf_er t i a (List.pairwise_cons.mp hD).2 h]
def gf_mv (p q : Nat) (a : Nat × Int32) : Nat × Int32 := if a.1 = p then (q, a.2) else a
theorem gf_mv_all {l : List (Nat × Int32)} {p q : Nat} (h : ∀ a ∈ l, a.1 ≠ p) : l.map (gf_mv p q) = l := by
  have e : l.map (gf_mv p q) = l.map id := List.map_congr_left (fun a ha => if_neg (h a ha))
  rw [e, List.map_id]
theorem gf_mvp (q : Nat) : ∀ (l : List (Nat × Int32)) (a : Nat × Int32), gf_D l → a ∈ l → (l.map (gf_mv a.1 q)).Perm ((q, a.2) :: gf_rm l a.1)
  | [], a, _, h => by cases h
  | b :: t, a, hD, h => by
    have hb := (List.pairwise_cons.mp hD).1
    by_cases e : b.1 = a.1
    · have eb : a = b := gf_Dm hD h List.mem_cons_self e.symm
      subst eb
      have hn : ∀ c ∈ t, c.1 ≠ a.1 := fun c hc => Ne.symm (hb c hc)
      rw [List.map_cons, gf_mv_all hn, gf_rm_d rfl, gf_rm_all hn, show gf_mv a.1 q a = (q, a.2) from if_pos rfl]
    · have ht : a ∈ t := by
        rcases List.mem_cons.mp h with z | z
        · exact absurd (by rw [z]) e
        · exact z
      rw [List.map_cons, gf_rm_c e, show gf_mv a.1 q b = b from if_neg e]
      exact ((gf_mvp q t a (List.pairwise_cons.mp hD).2 ht).cons b).trans (List.Perm.swap _ _ _)
end
section
/-! the small methods of both sides -/
def gf_C (x : Int32) : Prop := ∃ a : Nat, a < 32 ∧ x = nI a
def gf_P (x : Int32) : Prop := ∃ a : Nat, a < 1024 ∧ x = nI a
def gf_R (x y : Int32) : Prop := ∃ lo hi : Nat, lo < 1024 ∧ hi < 1024 ∧ x = nI lo ∧ y = nI hi ∧ lo / 32 ≤ hi / 32 ∧ lo % 32 ≤ hi % 32
theorem xc_t {post : Int32 → Prop} {a : Nat} (h : a < 32) (hp : post 1) : wpX_isCoordinate post (nI a) :=
  br_f (nI_pos (by omega)) (br_f (nI_ge (b := 32) h (by decide)) hp)
theorem xc_f {post : Int32 → Prop} {x : Int32} (h : ¬ gf_C x) (hp : post 0) : wpX_isCoordinate post x := by
  by_cases h0 : x < 0
  · exact br_t h0 hp
  · obtain ⟨j, hj, rfl⟩ := nI_of h0
    have hn : ¬ j < 32 := fun z => h ⟨j, z, rfl⟩
    exact br_f h0 (br_t (nI_le (a := 32) (by omega) hj) hp)
theorem xg_t {post : Int32 → Prop} {a b : Nat} (ha : a < 32) (hb : b < 32) (hp : post 1) : wpX_isGoodPlace post (nI a) (nI b) := by
  unfold wpX_isGoodPlace
  exact xc_t ha (br_f (by decide) (xc_t hb (br_f (by decide) hp)))
theorem xg_f {post : Int32 → Prop} {x y : Int32} (h : ¬ (gf_C x ∧ gf_C y)) (hp : post 0) : wpX_isGoodPlace post x y := by
  unfold wpX_isGoodPlace
  by_cases hx : gf_C x
  · have hy : ¬ gf_C y := gf_n0 h hx
    obtain ⟨a, ha, rfl⟩ := hx
    exact xc_t ha (br_f (by decide) (xc_f hy (br_t rfl hp)))
  · exact xc_f hx (br_t rfl hp)
theorem xp_t {post : Int32 → Prop} {a : Nat} (h : a < 1024) (hp : post 1) : wpX_isPlaceNumber post (nI a) :=
  br_f (nI_pos (by omega)) (br_f (nI_ge (b := 1024) h (by decide)) hp)
theorem xp_f {post : Int32 → Prop} {x : Int32} (h : ¬ gf_P x) (hp : post 0) : wpX_isPlaceNumber post x := by
  by_cases h0 : x < 0
  · exact br_t h0 hp
  · obtain ⟨j, hj, rfl⟩ := nI_of h0
    have hn : ¬ j < 1024 := fun z => h ⟨j, z, rfl⟩
    exact br_f h0 (br_t (nI_le (a := 1024) (by omega) hj) hp)
/-- at or beyond, inside -/
def gf_ge (p q : Nat) : Bool := decide (q / 32 ≤ p / 32) && decide (q % 32 ≤ p % 32)
def gf_in (lo hi p : Nat) : Bool := gf_ge p lo && gf_ge hi p
theorem gf_ge_t {p q : Nat} (h : q / 32 ≤ p / 32) (h2 : q % 32 ≤ p % 32) : gf_ge p q = true := by
  unfold gf_ge; rw [decide_eq_true h, decide_eq_true h2]; rfl
theorem gf_ge_f1 {p q : Nat} (h : ¬ q / 32 ≤ p / 32) : gf_ge p q = false := by
  unfold gf_ge; rw [decide_eq_false h]; rfl
theorem gf_ge_f2 {p q : Nat} (h : ¬ q % 32 ≤ p % 32) : gf_ge p q = false := by
  unfold gf_ge; rw [decide_eq_false h, Bool.and_false]
theorem xa {post : Int32 → Prop} {x y : Int32} {p q : Nat} (ex : x = nI p) (ey : y = nI q) (hp : p < 1024) (hq : q < 1024) (h1 : gf_ge p q = true → post 1) (h0 : gf_ge p q = false → post 0) : wpX_isAtOrBeyond post x y := by
  subst ex ey
  unfold wpX_isAtOrBeyond
  rw [gf_rem hp, gf_rem hq, gf_div hp, gf_div hq]
  exact ⟨by decide, by decide, pk_lt (p / 32) (q / 32) (fun h => h0 (gf_ge_f1 (by omega))) (fun h => ⟨by decide, by decide, pk_lt (p % 32) (q % 32) (fun h' => h0 (gf_ge_f2 (by omega))) (fun h' => h1 (gf_ge_t h h'))⟩)⟩
theorem xi {post : Int32 → Prop} {x : Int32} {p lo hi : Nat} (ex : x = nI p) (hp : p < 1024) (hlo : lo < 1024) (hhi : hi < 1024) (h1 : gf_in lo hi p = true → post 1) (h0 : gf_in lo hi p = false → post 0) : wpX_isInside post x (nI lo) (nI hi) := by
  unfold wpX_isInside
  refine xa ex rfl hp hlo (fun h => br_f (by decide) (xa rfl ex hhi hp (fun h' => br_f (by decide) (h1 ?_)) (fun h' => br_t rfl (h0 ?_)))) (fun h => br_t rfl (h0 ?_))
  · unfold gf_in; rw [h, h']; rfl
  · unfold gf_in; rw [h, h']; rfl
  · unfold gf_in; rw [h]; rfl
theorem xr_t {post : Int32 → Prop} {lo hi : Nat} (hlo : lo < 1024) (hhi : hi < 1024) (h1 : lo / 32 ≤ hi / 32) (h2 : lo % 32 ≤ hi % 32) (hp : post 1) : wpX_isGoodRectangle post (nI lo) (nI hi) := by
  unfold wpX_isGoodRectangle
  refine xp_t hlo (br_f (by decide) (xp_t hhi (br_f (by decide) (xa rfl rfl hhi hlo (fun h => br_f (by decide) hp) (fun h => ?_)))))
  rw [gf_ge_t h1 h2] at h
  cases h
theorem xr_f {post : Int32 → Prop} {x y : Int32} (h : ¬ gf_R x y) (hp : post 0) : wpX_isGoodRectangle post x y := by
  unfold wpX_isGoodRectangle
  by_cases hx : gf_P x
  · obtain ⟨lo, hlo, rfl⟩ := hx
    refine xp_t hlo (br_f (by decide) ?_)
    by_cases hy : gf_P y
    · obtain ⟨hi, hhi, rfl⟩ := hy
      refine xp_t hhi (br_f (by decide) (xa rfl rfl hhi hlo (fun z => ?_) (fun z => br_t rfl hp)))
      unfold gf_ge at z
      rw [Bool.and_eq_true, decide_eq_true_eq, decide_eq_true_eq] at z
      exact absurd ⟨lo, hi, hlo, hhi, rfl, rfl, z.1, z.2⟩ h
    · exact xp_f hy (br_t rfl hp)
  · exact xp_f hx (br_t rfl hp)
theorem yb_t {post : Int32 → Prop} {s : Int32} {A B C : Nat → Int32} {a : Nat} (h : a < 32) (hp : post 0) : wpY_bad post (s, A, B, C) (nI a) :=
  br_f (nI_pos (by omega)) (br_t (nI_le (b := 31) (by omega) (by decide)) hp)
theorem yb_f {post : Int32 → Prop} {s : Int32} {A B C : Nat → Int32} {x : Int32} (h : ¬ gf_C x) (hp : post 1) : wpY_bad post (s, A, B, C) x := by
  by_cases h0 : x < 0
  · exact br_t h0 hp
  · obtain ⟨j, hj, rfl⟩ := nI_of h0
    have hn : ¬ j < 32 := fun z => h ⟨j, z, rfl⟩
    exact br_f h0 (br_f (nI_ge (a := 31) (by omega) hj) hp)
theorem yp_t {post : Int32 → Prop} {s : Int32} {A B C : Nat → Int32} {a : Nat} (h : a < 1024) (hp : post 0) : wpY_badPlace post (s, A, B, C) (nI a) :=
  br_f (nI_pos (by omega)) (br_t (nI_le (b := 1023) (by omega) (by decide)) hp)
theorem yp_f {post : Int32 → Prop} {s : Int32} {A B C : Nat → Int32} {x : Int32} (h : ¬ gf_P x) (hp : post 1) : wpY_badPlace post (s, A, B, C) x := by
  by_cases h0 : x < 0
  · exact br_t h0 hp
  · obtain ⟨j, hj, rfl⟩ := nI_of h0
    have hn : ¬ j < 1024 := fun z => h ⟨j, z, rfl⟩
    exact br_f h0 (br_f (nI_ge (a := 1023) (by omega) hj) hp)
theorem yr_t {post : Int32 → Prop} {s : Int32} {A B C : Nat → Int32} {lo hi : Nat} (hlo : lo < 1024) (hhi : hi < 1024) (h1 : lo / 32 ≤ hi / 32) (h2 : lo % 32 ≤ hi % 32) (hp : post 0) : wpY_badRectangle post (s, A, B, C) (nI lo) (nI hi) := by
  unfold wpY_badRectangle
  dsimp only
  rw [gf_rem hlo, gf_rem hhi, gf_div hlo, gf_div hhi]
  exact yp_t hlo (br_t rfl (yp_t hhi (br_t rfl ⟨by decide, by decide, br_f (nI_nlt h1 (by omega)) ⟨by decide, by decide, br_t (nI_le h2 (by omega)) hp⟩⟩)))
theorem yr_f {post : Int32 → Prop} {s : Int32} {A B C : Nat → Int32} {x y : Int32} (h : ¬ gf_R x y) (hp : post 1) : wpY_badRectangle post (s, A, B, C) x y := by
  unfold wpY_badRectangle
  dsimp only
  by_cases hx : gf_P x
  · obtain ⟨lo, hlo, rfl⟩ := hx
    refine yp_t hlo (br_t rfl ?_)
    by_cases hy : gf_P y
    · obtain ⟨hi, hhi, rfl⟩ := hy
      refine yp_t hhi (br_t rfl ?_)
      rw [gf_rem hlo, gf_rem hhi, gf_div hlo, gf_div hhi]
      refine ⟨by decide, by decide, pk_lt (hi / 32) (lo / 32) (fun _ => hp) (fun z => ⟨by decide, by decide, pk_le (lo % 32) (hi % 32) (fun z' => ?_) (fun _ => hp)⟩)⟩
      exact absurd ⟨lo, hi, hlo, hhi, rfl, rfl, z, z'⟩ h
    · exact yp_f hy (br_f (by decide) hp)
  · exact yp_f hx (br_f (by decide) hp)
/-! the states against a list of points -/
def gf_X (l : List (Nat × Int32)) (P V : Nat → Int32) : Prop := ∀ (i : Nat) (a : Nat × Int32), l[i]? = some a → P i = nI a.1 ∧ V i = a.2
def gf_Y (l : List (Nat × Int32)) (A B C : Nat → Int32) : Prop := ∀ (i : Nat) (a : Nat × Int32), l[i]? = some a → A i = nI (a.1 / 32) ∧ B i = nI (a.1 % 32) ∧ C i = a.2
def gf_AX (l : List (Nat × Int32)) (u : SX) : Prop := ∃ (m : List (Nat × Int32)) (P V : Nat → Int32), u = (nI m.length, P, V) ∧ gf_X m P V ∧ gf_S m ∧ m.Perm l
def gf_AY (l : List (Nat × Int32)) (v : SY) : Prop := ∃ (m : List (Nat × Int32)) (A B C : Nat → Int32), v = (nI m.length, A, B, C) ∧ gf_Y m A B C ∧ m.Perm l
theorem gf_Xc {l : List (Nat × Int32)} {P V : Nat → Int32} (hX : gf_X l P V) (hl : l.length ≤ 40) {i : Nat} {a : Nat × Int32} (e : l[i]? = some a) : P (nI i).toNatClampNeg = nI a.1 ∧ V (nI i).toNatClampNeg = a.2 := by
  have := gf_lt e
  rw [nI_clamp (by omega)]
  exact hX i a e
theorem gf_Yc {l : List (Nat × Int32)} {A B C : Nat → Int32} (hY : gf_Y l A B C) (hl : l.length ≤ 40) {i : Nat} {a : Nat × Int32} (e : l[i]? = some a) : A (nI i).toNatClampNeg = nI (a.1 / 32) ∧ B (nI i).toNatClampNeg = nI (a.1 % 32) ∧ C (nI i).toNatClampNeg = a.2 := by
  have := gf_lt e
  rw [nI_clamp (by omega)]
  exact hY i a e
theorem xs {post : Int32 → Prop} {l : List (Nat × Int32)} {P V : Nat → Int32} {q : Nat} (hX : gf_X l P V) (hG : gf_G l) (hq : q < 1024) (hf : ∀ i a, l[i]? = some a → a.1 = q → post (nI i)) (hn : (∀ a ∈ l, a.1 ≠ q) → post (-1)) : wpX_slotOf post (nI l.length, P, V) (nI q) := by
  have hl := hG.2.2
  have key : ∀ d i, i + d = l.length → (∀ j a, j < i → l[j]? = some a → a.1 ≠ q) → wX_slotOf_2 post (nI q) (nI l.length) P V (d + 1) (nI i) := by
    intro d
    induction d with
    | zero =>
      intro i hi hj
      refine br_t (nI_le (by omega) (by omega)) (hn ?_)
      intro a ha
      obtain ⟨j, e⟩ := gf_idx ha
      have := gf_lt e
      exact hj j a (by omega) e
    | succ d ih =>
      intro i hi hj
      have e : l[i]? = some l[i] := List.getElem?_eq_getElem (by omega)
      have hb := hG.2.1 _ (gf_mem e)
      refine br_f (nI_ge (by omega) (by omega)) ⟨vp_in_nI (by omega) (by omega), pk_eq (l[i]).1 q (fun h => hf i _ e h) (fun h => nm_r (nI_1 i) (ih (i + 1) (by omega) ?_)) (gf_Xc hX hl e).1 rfl⟩
      intro j a hj' ej
      by_cases z : j = i
      · subst z
        cases Option.some.inj (e.symm.trans ej)
        exact h
      · exact hj j a (by omega) ej
  exact ⟨l.length + 1, key l.length 0 (by omega) (fun j a hj => absurd hj (by omega))⟩
theorem yf {post : Int32 → Prop} {l : List (Nat × Int32)} {A B C : Nat → Int32} {x y : Int32} (hY : gf_Y l A B C) (hG : gf_G l) (hf : ∀ i a, l[i]? = some a → nI (a.1 / 32) = x → nI (a.1 % 32) = y → post (nI i)) (hn : (∀ a ∈ l, ¬ (nI (a.1 / 32) = x ∧ nI (a.1 % 32) = y)) → post (-1)) : wpY_find post (nI l.length, A, B, C) x y := by
  have hl := hG.2.2
  have key : ∀ d i, i + d = l.length → (∀ j a, j < i → l[j]? = some a → ¬ (nI (a.1 / 32) = x ∧ nI (a.1 % 32) = y)) → wY_find_2 post x y (nI l.length) A B C (d + 1) (nI i) := by
    intro d
    induction d with
    | zero =>
      intro i hi hj
      refine br_t (nI_le (by omega) (by omega)) (hn ?_)
      intro a ha
      obtain ⟨j, e⟩ := gf_idx ha
      have := gf_lt e
      exact hj j a (by omega) e
    | succ d ih =>
      intro i hi hj
      have e : l[i]? = some l[i] := List.getElem?_eq_getElem (by omega)
      have c := gf_Yc hY hl e
      have vi : vp_in (nI i) 40 := vp_in_nI (by omega) (by omega)
      have nx : ¬ (nI (l[i].1 / 32) = x ∧ nI (l[i].1 % 32) = y) → wY_find_2 post x y (nI l.length) A B C (d + 1) (nI (i + 1)) := by
        intro h
        refine ih (i + 1) (by omega) ?_
        intro j a hj' ej
        by_cases z : j = i
        · subst z
          cases Option.some.inj (e.symm.trans ej)
          exact h
        · exact hj j a (by omega) ej
      refine br_f (nI_ge (by omega) (by omega)) (br_f (nI_ge (b := 40) (by omega) (by decide)) ⟨vi, br_c (fun h1 => ⟨vi, br_c (fun h2 => ?_) (fun h2 => nm_r (nI_1 i) (nx ?_))⟩) (fun h1 => nm_r (nI_1 i) (nx ?_))⟩)
      · rw [c.1] at h1
        rw [c.2.1] at h2
        exact hf i _ e h1 h2
      · rw [c.2.1] at h2
        exact fun z => h2 z.2
      · rw [c.1] at h1
        exact fun z => h1 z.1
  exact ⟨l.length + 1, key l.length 0 (by omega) (fun j a hj => absurd hj (by omega))⟩
theorem gf_xy {a x y : Nat} (h : a < 1024) (hx : x < 32) (hy : y < 32) : (nI (a / 32) = nI x ∧ nI (a % 32) = nI y) ↔ a = 32 * x + y := by
  rw [nI_eq (by omega) (by omega), nI_eq (by omega) (by omega)]
  omega
theorem yfq {post : Int32 → Prop} {l : List (Nat × Int32)} {A B C : Nat → Int32} {x y : Nat} (hY : gf_Y l A B C) (hG : gf_G l) (hx : x < 32) (hy : y < 32) (hf : ∀ i a, l[i]? = some a → a.1 = 32 * x + y → post (nI i)) (hn : (∀ a ∈ l, a.1 ≠ 32 * x + y) → post (-1)) : wpY_find post (nI l.length, A, B, C) (nI x) (nI y) :=
  yf hY hG (fun i a e h1 h2 => hf i a e ((gf_xy (hG.2.1 a (gf_mem e)) hx hy).mp ⟨h1, h2⟩)) (fun h => hn (fun a ha z => h a ha ((gf_xy (hG.2.1 a ha) hx hy).mpr z)))
theorem yi {post : Int32 → Prop} {l : List (Nat × Int32)} {A B C : Nat → Int32} {s : Int32} {i lo hi : Nat} {a : Nat × Int32} (hY : gf_Y l A B C) (hG : gf_G l) (e : l[i]? = some a) (hlo : lo < 1024) (hhi : hi < 1024) (h1 : gf_in lo hi a.1 = true → post 1) (h0 : gf_in lo hi a.1 = false → post 0) : wpY_inside post (s, A, B, C) (nI i) (nI lo) (nI hi) := by
  have hl := hG.2.2
  have hb := hG.2.1 a (gf_mem e)
  have hi' := gf_lt e
  have c := gf_Yc hY hl e
  have vi : vp_in (nI i) 40 := vp_in_nI (by omega) (by omega)
  unfold wpY_inside
  dsimp only
  rw [gf_rem hlo, gf_rem hhi, gf_div hlo, gf_div hhi, c.1, c.2.1]
  refine ⟨vi, by decide, pk_lt _ _ (fun z => h0 ?_) (fun z1 => ⟨vi, by decide, pk_lt _ _ (fun z => h0 ?_) (fun z2 => ⟨vi, by decide, pk_lt _ _ (fun z => h0 ?_) (fun z3 => ⟨vi, by decide, pk_lt _ _ (fun z => h0 ?_) (fun z4 => h1 ?_) rfl rfl (by omega) (by omega)⟩) rfl rfl (by omega) (by omega)⟩) rfl rfl (by omega) (by omega)⟩) rfl rfl (by omega) (by omega)⟩
  · unfold gf_in; rw [gf_ge_f1 (by omega)]; rfl
  · unfold gf_in; rw [gf_ge_f1 (p := hi) (by omega), Bool.and_false]
  · unfold gf_in; rw [gf_ge_f2 (by omega)]; rfl
  · unfold gf_in; rw [gf_ge_f2 (p := hi) (by omega), Bool.and_false]
  · unfold gf_in; rw [gf_ge_t (by omega) (by omega), gf_ge_t (by omega) (by omega)]; rfl
end
