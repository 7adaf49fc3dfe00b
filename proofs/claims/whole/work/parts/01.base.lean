theorem pk_us {f : Nat → Int32} {k : Nat} {x : Int32} : upd f k x k = x := if_pos rfl
theorem pk_un {f : Nat → Int32} {k j : Nat} {x : Int32} (h : j ≠ k) : upd f k x j = f j := if_neg h
theorem pk_sub {a b : Nat} (h : b ≤ a) : nI a - nI b = nI (a - b) := by
  obtain ⟨c, rfl⟩ : ∃ c, a = c + b := ⟨a - b, by omega⟩
  rw [← nI_add, Int32.add_sub_cancel, Nat.add_sub_cancel]
theorem pk_m1 (n : Nat) : nI (n + 1) + (-1) = nI n := by
  rw [← nI_1, Int32.add_assoc, show (1 : Int32) + (-1) = 0 from rfl, Int32.add_zero]
theorem pk_mul (a b : Nat) : nI a * nI b = nI (a * b) := (Int32.ofNat_mul a b).symm
theorem pk_div {a d : Nat} (ha : a < 2 ^ 31) (h0 : 0 < d) (hd : d < 2 ^ 31) : nI a / nI d = nI (a / d) := by
  apply Int32.toInt_inj.mp
  rw [lg_idiv_nonneg (by rw [nI_toInt ha]; omega) (by rw [nI_toInt hd]; omega), nI_toInt ha, nI_toInt hd, nI_toInt (Nat.lt_of_le_of_lt (Nat.div_le_self a d) ha)]
  first | rfl | exact (Int.natCast_ediv _ _).symm
theorem pk_rem {a d : Nat} (ha : a < 2 ^ 31) (h0 : 0 < d) (hd : d < 2 ^ 31) : nI a - nI a / nI d * nI d = nI (a % d) := by
  rw [pk_div ha h0 hd, pk_mul, pk_sub (Nat.div_mul_le_self a d)]
  exact congrArg nI (by have := Nat.div_add_mod' a d; omega)
theorem pk_le {x y : Int32} {A B : Prop} (a b : Nat) (f : a ≤ b → A) (g : b < a → B) (hx : x = nI a := by rfl) (hy : y = nI b := by rfl) (ha : a < 2 ^ 31 := by omega) (hb : b < 2 ^ 31 := by omega) : (x ≤ y → A) ∧ (¬ x ≤ y → B) := by
  subst hx hy
  rw [nI_leI ha hb]
  exact ⟨f, fun z => g (by omega)⟩
theorem pk_lt {x y : Int32} {A B : Prop} (a b : Nat) (f : a < b → A) (g : b ≤ a → B) (hx : x = nI a := by rfl) (hy : y = nI b := by rfl) (ha : a < 2 ^ 31 := by omega) (hb : b < 2 ^ 31 := by omega) : (x < y → A) ∧ (¬ x < y → B) := by
  subst hx hy
  rw [nI_ltI ha hb]
  exact ⟨f, fun z => g (by omega)⟩
theorem pk_eq {x y : Int32} {A B : Prop} (a b : Nat) (f : a = b → A) (g : a ≠ b → B) (hx : x = nI a := by rfl) (hy : y = nI b := by rfl) (ha : a < 2 ^ 31 := by omega) (hb : b < 2 ^ 31 := by omega) : (x = y → A) ∧ (¬ x = y → B) := by
  subst hx hy
  rw [nI_eq ha hb]
  exact ⟨f, g⟩
theorem pk_in {x : Int32} (n N : Nat) (h : n < N) (hx : x = nI n := by rfl) (hN : N < 2 ^ 31 := by omega) : vp_in x N := by
  subst hx
  exact vp_in_nI h hN
theorem pk_cl {x : Int32} (n : Nat) (hx : x = nI n := by rfl) (h : n < 2 ^ 31 := by omega) : x.toNatClampNeg = n := by
  subst hx
  exact nI_clamp h
theorem pk_tn {n : Nat} (h : n < 2 ^ 32) : (nI n).toBitVec.toNat = n := Nat.mod_eq_of_lt h
theorem pk_and (x : Int32) {m : Int32} (k : Nat) (hm : m.toBitVec.toNat = 2 ^ k - 1) : x &&& m = nI (x.toBitVec.toNat % 2 ^ k) := by
  apply Int32.toBitVec_inj.mp
  apply BitVec.eq_of_toNat_eq
  rw [Int32.toBitVec_and, BitVec.toNat_and, hm, Nat.and_two_pow_sub_one_eq_mod]
  show _ = (BitVec.ofNat 32 _).toNat
  rw [BitVec.toNat_ofNat]
  exact (Nat.mod_eq_of_lt (Nat.lt_of_le_of_lt (Nat.mod_le _ _) x.toBitVec.isLt)).symm
theorem pk_andE (x : Int32) {m : Int32} (k : Nat) (hm : m.toBitVec.toNat = 2 ^ k - 1) : ∃ j : Nat, j < 2 ^ k ∧ x &&& m = nI j := ⟨_, Nat.mod_lt _ (Nat.two_pow_pos k), pk_and x k hm⟩
theorem gf_div {a : Nat} (h : a < 1024) : nI a / 32 = nI (a / 32) := pk_div (d := 32) (by omega) (by decide) (by decide)
theorem gf_rem {a : Nat} (h : a < 1024) : nI a - nI a / 32 * 32 = nI (a % 32) := pk_rem (d := 32) (by omega) (by decide) (by decide)
theorem gf_pl (a b : Nat) : 32 * nI a + nI b = nI (32 * a + b) := by
  rw [show (32 : Int32) = nI 32 from rfl, pk_mul, nI_add]
theorem gf_n0 {a b : Prop} (h : ¬ (a ∧ b)) (x : a) : ¬ b := fun y => h ⟨x, y⟩
/-- a loop over a list, as a fold, with a side condition -/
theorem gf_loop {σ α : Type} (W : Nat → σ → Nat → Prop) (l : List α) (f : σ → α → σ) (J : Nat → σ → Prop) (post : σ → Prop)
    (hx : ∀ n s, J l.length s → post s → W (n + 1) s l.length)
    (hs : ∀ n s i a, l[i]? = some a → J i s → W n (f s a) (i + 1) → W (n + 1) s i)
    (hJ : ∀ s i a, l[i]? = some a → J i s → J (i + 1) (f s a)) (s : σ) (h0 : J 0 s) (hp : post (l.foldl f s)) : W (l.length + 1) s 0 := by
  have key : ∀ d i s, i + d = l.length → J i s → post ((l.drop i).foldl f s) → W (d + 1) s i := by
    intro d
    induction d with
    | zero =>
      intro i s hi hj hp
      have e : i = l.length := by omega
      subst e
      rw [List.drop_length] at hp
      exact hx 0 s hj hp
    | succ d ih =>
      intro i s hi hj hp
      have hlt : i < l.length := by omega
      rw [List.drop_eq_getElem_cons hlt, List.foldl_cons] at hp
      have e : l[i]? = some l[i] := List.getElem?_eq_getElem hlt
      exact hs (d + 1) s i l[i] e hj (ih (i + 1) _ (by omega) (hJ s i _ e hj) hp)
  exact key l.length 0 s (by omega) h0 (by rw [List.drop_zero]; exact hp)
/-- a loop over a list that counts -/
theorem gf_count {α : Type} (W : Nat → Nat → Nat → Prop) (l : List α) (p : α → Bool) (post : Nat → Prop)
    (hx : ∀ n s, post s → W (n + 1) s l.length)
    (hs : ∀ n s i a, l[i]? = some a → (p a = true → W n (s + 1) (i + 1)) → (p a = false → W n s (i + 1)) → W (n + 1) s i)
    (hp : post (l.countP p)) : ∃ n, W n 0 0 := by
  have key : ∀ d i s, i + d = l.length → post (s + (l.drop i).countP p) → W (d + 1) s i := by
    intro d
    induction d with
    | zero =>
      intro i s hi hp
      have e : i = l.length := by omega
      subst e
      rw [List.drop_length, List.countP_nil] at hp
      exact hx 0 s hp
    | succ d ih =>
      intro i s hi hp
      have hlt : i < l.length := by omega
      rw [List.drop_eq_getElem_cons hlt] at hp
      have e : l[i]? = some l[i] := List.getElem?_eq_getElem hlt
      refine hs (d + 1) s i l[i] e (fun h => ih (i + 1) _ (by omega) ?_) (fun h => ih (i + 1) _ (by omega) ?_)
      · rw [List.countP_cons_of_pos h] at hp
        rw [show s + 1 + List.countP p (List.drop (i + 1) l) = s + (List.countP p (List.drop (i + 1) l) + 1) by omega]
        exact hp
      · rw [List.countP_cons_of_neg (by rw [h]; decide)] at hp
        exact hp
  exact ⟨l.length + 1, key l.length 0 0 (by omega) (by rw [List.drop_zero, Nat.zero_add]; exact hp)⟩
theorem gf_pw {α : Type} {R : α → α → Prop} {l : List α} : l.Pairwise R ↔ ∀ (i j : Nat) (a b : α), i < j → l[i]? = some a → l[j]? = some b → R a b := by
  rw [List.pairwise_iff_getElem]
  constructor
  · intro h i j a b hij ha hb
    obtain ⟨hi, rfl⟩ := List.getElem?_eq_some_iff.mp ha
    obtain ⟨hj, rfl⟩ := List.getElem?_eq_some_iff.mp hb
    exact h i j hi hj hij
  · intro h i j hi hj hij
    exact h i j _ _ hij (List.getElem?_eq_getElem hi) (List.getElem?_eq_getElem hj)
theorem gf_lt {α : Type} {l : List α} {i : Nat} {a : α} (h : l[i]? = some a) : i < l.length := (List.getElem?_eq_some_iff.mp h).1
theorem gf_mem {α : Type} {l : List α} {i : Nat} {a : α} (h : l[i]? = some a) : a ∈ l := List.mem_of_getElem? h
theorem gf_idx {α : Type} {l : List α} {a : α} (h : a ∈ l) : ∃ i : Nat, l[i]? = some a := List.mem_iff_getElem?.mp h
/-- distinct places -/
def gf_D (l : List (Nat × Int32)) : Prop := l.Pairwise (fun a b => a.1 ≠ b.1)
def gf_S (l : List (Nat × Int32)) : Prop := l.Pairwise (fun a b => a.1 < b.1)
def gf_G (l : List (Nat × Int32)) : Prop := gf_D l ∧ (∀ a ∈ l, a.1 < 1024) ∧ l.length ≤ 40
theorem gf_Dp {l m : List (Nat × Int32)} (h : l.Perm m) (hD : gf_D l) : gf_D m := List.Perm.pairwise h hD (fun x => Ne.symm x)
theorem gf_Gp {l m : List (Nat × Int32)} (h : l.Perm m) (hG : gf_G l) : gf_G m :=
  ⟨gf_Dp h hG.1, fun a ha => hG.2.1 a (h.mem_iff.mpr ha), by rw [← h.length_eq]; exact hG.2.2⟩
theorem gf_Du {l : List (Nat × Int32)} (hD : gf_D l) {i j : Nat} {a b : Nat × Int32} (ha : l[i]? = some a) (hb : l[j]? = some b) (e : a.1 = b.1) : i = j := by
  rcases Nat.lt_trichotomy i j with h | h | h
  · exact absurd e (gf_pw.mp hD i j a b h ha hb)
  · exact h
  · exact absurd e.symm (gf_pw.mp hD j i b a h hb ha)
theorem gf_Dm {l : List (Nat × Int32)} (hD : gf_D l) {a b : Nat × Int32} (ha : a ∈ l) (hb : b ∈ l) (e : a.1 = b.1) : a = b := by
  obtain ⟨i, hi⟩ := gf_idx ha
  obtain ⟨j, hj⟩ := gf_idx hb
  have := gf_Du hD hi hj e
  subst this
  exact Option.some.inj (hi.symm.trans hj)
/-- is there a point at q -/
def gf_h (l : List (Nat × Int32)) (q : Nat) : Bool := l.any (fun a => decide (a.1 = q))
theorem gf_h_t {l : List (Nat × Int32)} {q : Nat} {a : Nat × Int32} (h : a ∈ l) (e : a.1 = q) : gf_h l q = true :=
  List.any_eq_true.mpr ⟨a, h, decide_eq_true e⟩
theorem gf_h_f {l : List (Nat × Int32)} {q : Nat} (h : ∀ a ∈ l, a.1 ≠ q) : gf_h l q = false :=
  List.any_eq_false.mpr (fun a ha => by rw [decide_eq_true_eq]; exact h a ha)
theorem gf_h_e {l : List (Nat × Int32)} {q : Nat} (h : gf_h l q = true) : ∃ a ∈ l, a.1 = q := by
  obtain ⟨a, ha, e⟩ := List.any_eq_true.mp h
  exact ⟨a, ha, of_decide_eq_true e⟩
theorem gf_h_n {l : List (Nat × Int32)} {q : Nat} (h : gf_h l q = false) : ∀ a ∈ l, a.1 ≠ q := by
  intro a ha e
  rw [gf_h_t ha e] at h
  cases h
theorem gf_h_p {l m : List (Nat × Int32)} (h : l.Perm m) (q : Nat) : gf_h l q = gf_h m q := h.any_eq
def gf_rp (q : Nat) (v : Int32) (a : Nat × Int32) : Nat × Int32 := if a.1 = q then (q, v) else a
theorem gf_rp1 (q : Nat) (v : Int32) (a : Nat × Int32) : (gf_rp q v a).1 = a.1 := by
  unfold gf_rp
  split
  · rename_i h; exact h.symm
  · rfl
/-- what put makes of the points -/
def gf_put (l : List (Nat × Int32)) (q : Nat) (v : Int32) : List (Nat × Int32) :=
  if gf_h l q = true then l.map (gf_rp q v) else if 40 ≤ l.length then l else (q, v) :: l
def gf_pr (l : List (Nat × Int32)) (q : Nat) : Int32 :=
  if gf_h l q = true then 0 else if 40 ≤ l.length then -2 else 1
theorem gf_put_p {l m : List (Nat × Int32)} (h : l.Perm m) (q : Nat) (v : Int32) : (gf_put l q v).Perm (gf_put m q v) := by
  unfold gf_put
  rw [gf_h_p h, h.length_eq]
  split
  · exact h.map _
  · split
    · exact h
    · exact h.cons _
theorem gf_pr_p {l m : List (Nat × Int32)} (h : l.Perm m) (q : Nat) : gf_pr l q = gf_pr m q := by
  unfold gf_pr
  rw [gf_h_p h, h.length_eq]
theorem gf_Gc {l : List (Nat × Int32)} (hG : gf_G l) {q : Nat} {v : Int32} (hq : q < 1024) (hn : ∀ a ∈ l, a.1 ≠ q) (hl : l.length < 40) : gf_G ((q, v) :: l) := by
  refine ⟨List.pairwise_cons.mpr ⟨fun a ha => Ne.symm (hn a ha), hG.1⟩, ?_, by rw [List.length_cons]; omega⟩
  intro a ha
  rcases List.mem_cons.mp ha with rfl | h
  · exact hq
  · exact hG.2.1 a h
theorem gf_put_G {l : List (Nat × Int32)} (hG : gf_G l) {q : Nat} (hq : q < 1024) (v : Int32) : gf_G (gf_put l q v) := by
  unfold gf_put
  split
  · refine ⟨List.pairwise_map.mpr ?_, ?_, by rw [List.length_map]; exact hG.2.2⟩
    · refine List.Pairwise.imp ?_ hG.1
      intro a b h
      rw [gf_rp1, gf_rp1]
      exact h
    · intro a ha
      obtain ⟨b, hb, rfl⟩ := List.mem_map.mp ha
      rw [gf_rp1]
      exact hG.2.1 b hb
  · rename_i h
    split
    · exact hG
    · exact gf_Gc hG hq (gf_h_n (by rw [Bool.not_eq_true] at h; exact h)) (by omega)
/-- the points without that at q -/
def gf_rm (l : List (Nat × Int32)) (q : Nat) : List (Nat × Int32) := l.filter (fun a => decide (a.1 ≠ q))
theorem gf_Gf {l : List (Nat × Int32)} (hG : gf_G l) (p : Nat × Int32 → Bool) : gf_G (l.filter p) :=
  ⟨List.Pairwise.filter p hG.1, fun a ha => hG.2.1 a (List.mem_filter.mp ha).1, Nat.le_trans (List.length_filter_le p l) hG.2.2⟩
theorem gf_rm_all {l : List (Nat × Int32)} {q : Nat} (h : ∀ a ∈ l, a.1 ≠ q) : gf_rm l q = l :=
  List.filter_eq_self.mpr (fun a ha => decide_eq_true (h a ha))
theorem gf_rm_n {l : List (Nat × Int32)} {q : Nat} : ∀ a ∈ gf_rm l q, a.1 ≠ q := fun _ ha => of_decide_eq_true (List.mem_filter.mp ha).2
theorem gf_rm_c {a : Nat × Int32} {l : List (Nat × Int32)} {q : Nat} (h : a.1 ≠ q) : gf_rm (a :: l) q = a :: gf_rm l q :=
  List.filter_cons_of_pos (decide_eq_true h)
theorem gf_rm_d {a : Nat × Int32} {l : List (Nat × Int32)} {q : Nat} (h : a.1 = q) : gf_rm (a :: l) q = gf_rm l q :=
  List.filter_cons_of_neg (by rw [decide_eq_true_eq]; exact fun z => z h)
theorem gf_er : ∀ (l : List (Nat × Int32)) (i : Nat) (a : Nat × Int32), gf_D l → l[i]? = some a → l.eraseIdx i = gf_rm l a.1
  | [], i, a, _, h => by rw [List.getElem?_nil] at h; cases h
  | b :: t, 0, a, hD, h => by
    rw [List.getElem?_cons_zero] at h
    cases h
    rw [List.eraseIdx_cons_zero, gf_rm_d rfl, gf_rm_all (fun c hc => Ne.symm ((List.pairwise_cons.mp hD).1 c hc))]
  | b :: t, i + 1, a, hD, h => by
    rw [List.getElem?_cons_succ] at h
    rw [List.eraseIdx_cons_succ, gf_rm_c ((List.pairwise_cons.mp hD).1 a (gf_mem h)), gf_er t i a (List.pairwise_cons.mp hD).2 h]
def gf_mv (p q : Nat) (a : Nat × Int32) : Nat × Int32 := if a.1 = p then (q, a.2) else a
theorem gf_mv_all {l : List (Nat × Int32)} {p q : Nat} (h : ∀ a ∈ l, a.1 ≠ p) : l.map (gf_mv p q) = l := by
  have e : l.map (gf_mv p q) = l.map id := List.map_congr_left (fun a ha => if_neg (h a ha))
  rw [e, List.map_id]
theorem gf_mvp (q : Nat) : ∀ (l : List (Nat × Int32)) (a : Nat × Int32), gf_D l → a ∈ l → (l.map (gf_mv a.1 q)).Perm ((q, a.2) :: gf_rm l a.1)
  | [], a, _, h => by cases h
  | b :: t, a, hD, h => by
    have hb := (List.pairwise_cons.mp hD).1
    by_cases e : b.1 = a.1
    · have eb : a = b := gf_Dm hD h List.mem_cons_self e.symm
      subst eb
      have hn : ∀ c ∈ t, c.1 ≠ a.1 := fun c hc => Ne.symm (hb c hc)
      rw [List.map_cons, gf_mv_all hn, gf_rm_d rfl, gf_rm_all hn, show gf_mv a.1 q a = (q, a.2) from if_pos rfl]
    · have ht : a ∈ t := by
        rcases List.mem_cons.mp h with z | z
        · exact absurd (by rw [z]) e
        · exact z
      rw [List.map_cons, gf_rm_c e, show gf_mv a.1 q b = b from if_neg e]
      exact ((gf_mvp q t a (List.pairwise_cons.mp hD).2 ht).cons b).trans (List.Perm.swap _ _ _)
