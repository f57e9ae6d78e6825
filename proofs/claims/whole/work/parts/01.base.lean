theorem pk_us {f : Nat → Int32} {k : Nat} {x : Int32} : upd f k x k = x := if_pos rfl
theorem pk_un {f : Nat → Int32} {k j : Nat} {x : Int32} (h : j ≠ k) : upd f k x j = f j := if_neg h
theorem pk_sub {a b : Nat} (h : b ≤ a) : nI a - nI b = nI (a - b) := by
  obtain ⟨c, rfl⟩ : ∃ c, a = c + b := ⟨a - b, by omega⟩
  rw [← nI_add, Int32.add_sub_cancel, Nat.add_sub_cancel]
theorem pk_mul (a b : Nat) : nI a * nI b = nI (a * b) := (Int32.ofNat_mul a b).symm
theorem pk_div {a d : Nat} (ha : a < 2 ^ 31) (h0 : 0 < d) (hd : d < 2 ^ 31) : nI a / nI d = nI (a / d) := by
  apply Int32.toInt_inj.mp
  rw [lg_idiv_nonneg (by rw [nI_toInt ha]; omega) (by rw [nI_toInt hd]; omega), nI_toInt ha, nI_toInt hd, nI_toInt (Nat.lt_of_le_of_lt (Nat.div_le_self a d) ha)]
  first | rfl | exact (Int.natCast_ediv _ _).symm
theorem pk_rem {a d : Nat} (ha : a < 2 ^ 31) (h0 : 0 < d) (hd : d < 2 ^ 31) : nI a - nI a / nI d * nI d = nI (a % d) := by
  rw [pk_div ha h0 hd, pk_mul, pk_sub (Nat.div_mul_le_self a d)]
  exact congrArg nI (by have := Nat.div_add_mod' a d; omega)
theorem pk_sub_toInt {a b : Nat} (ha : a < 2 ^ 30) (hb : b < 2 ^ 30) : (nI a - nI b).toInt = (a : Int) - b := by
  rw [Int32.toInt_sub, nI_toInt (by omega), nI_toInt (by omega)]
  exact Int.bmod_eq_of_le (by omega) (by omega)
theorem pk_ix (x : Int32) {n : Nat} (hn : n < 2 ^ 31) : x < 0 ∨ nI n ≤ x ∨ ∃ j : Nat, j < n ∧ x = nI j := by
  by_cases h : x < 0
  · exact Or.inl h
  · obtain ⟨j, hj, rfl⟩ := nI_of h
    by_cases h2 : j < n
    · exact Or.inr (Or.inr ⟨j, h2, rfl⟩)
    · exact Or.inr (Or.inl (nI_le (by omega) hj))
theorem pk_le {x y : Int32} {A B : Prop} (a b : Nat) (f : a ≤ b → A) (g : b < a → B) (hx : x = nI a := by rfl) (hy : y = nI b := by rfl) (ha : a < 2 ^ 31 := by omega) (hb : b < 2 ^ 31 := by omega) : (x ≤ y → A) ∧ (¬ x ≤ y → B) := by
  subst hx hy
  rw [nI_leI ha hb]
  exact ⟨f, fun z => g (by omega)⟩
theorem pk_lt {x y : Int32} {A B : Prop} (a b : Nat) (f : a < b → A) (g : b ≤ a → B) (hx : x = nI a := by rfl) (hy : y = nI b := by rfl) (ha : a < 2 ^ 31 := by omega) (hb : b < 2 ^ 31 := by omega) : (x < y → A) ∧ (¬ x < y → B) := by
  subst hx hy
  rw [nI_ltI ha hb]
  exact ⟨f, fun z => g (by omega)⟩
theorem pk_eq {x y : Int32} {A B : Prop} (a b : Nat) (f : a = b → A) (g : a ≠ b → B) (hx : x = nI a := by rfl) (hy : y = nI b := by rfl) (ha : a < 2 ^ 31 := by omega) (hb : b < 2 ^ 31 := by omega) : (x = y → A) ∧ (¬ x = y → B) := by
  subst hx hy
  rw [nI_eq ha hb]
  exact ⟨f, g⟩
/-- sums and the pure picture of a state -/
def vw_sup (st wh so ta : Nat → Int32) (c d : Int32) : Nat → Int32
  | 0 => 0
  | n + 1 => if so n = c ∧ ta n = d then vw_sup st wh so ta c d n + st (wh n).toNatClampNeg else vw_sup st wh so ta c d n
def vw_tot (st : Nat → Int32) : Nat → Int32
  | 0 => 0
  | n + 1 => vw_tot st n + st n
def vw_S (n : Nat) (st wh so ta : Nat → Int32) (c d : Int32) : Prop := ¬ 3 * vw_sup st wh so ta c d n ≤ 2 * vw_tot st 8
def vw_ok (n : Nat) (wh so ta : Nat → Int32) : Prop := ∀ i, i < n → ∃ w s t : Nat, w < 8 ∧ s < 128 ∧ t < 128 ∧ s / 4 < t / 4 ∧ wh i = nI w ∧ so i = nI s ∧ ta i = nI t
abbrev vw_sur (s t u w : Int32) : Prop := ¬ u / 4 ≤ s / 4 ∧ ¬ t / 4 ≤ w / 4
def vw_bad2 (so ta : Nat → Int32) (i j : Nat) : Prop := ta i / 4 = ta j / 4 ∨ vw_sur (so i) (ta i) (so j) (ta j)
def vw_Off (n : Nat) (wh so ta : Nat → Int32) (v : Int32) : Prop := ∃ i j : Nat, i < n ∧ j < n ∧ i ≠ j ∧ wh i = v ∧ wh j = v ∧ vw_bad2 so ta i j
def vw_F (b n : Nat) (st wh so ta : Nat → Int32) (g : Nat → Int32) : Prop := ∀ c, c < b → (¬ g c = 0 ↔ (c = 0 ∨ ∃ i, i < n ∧ ta i = nI c ∧ ¬ g (so i).toNatClampNeg = 0 ∧ vw_S n st wh so ta (so i) (nI c)))
def i_Rel (_ : Nat) (u : SX) (v : SY) : Prop := ∃ (n : Nat) (st ofs wh so ta mk ju : Nat → Int32), u = (nI n, st, ofs, wh, so, ta, mk) ∧ v = (nI n, st, wh, so, ta, ju) ∧ n ≤ 64 ∧ vw_ok n wh so ta ∧ ∀ x, x < 8 → (ofs x = 0 ↔ ¬ vw_Off n wh so ta (nI x))
theorem i_up {k : Nat} {u : SX} {v : SY} (h : i_Rel k u v) : i_Rel (k + 4) u v := h
theorem vw_n1 : vp_nar .boolean 1 = 1 := by decide
theorem vw_n0 : vp_nar .boolean 0 = 0 := by decide
theorem vw_4 : ¬ (4 : Int32) = 0 := by decide
theorem vw_10 : ¬ (1 : Int32) = 0 := by decide
theorem vw_c4 {a : Nat} (ha : a < 2 ^ 31) : nI a / 4 = nI (a / 4) := pk_div (d := 4) ha (by decide) (by decide)
theorem vw_r4 {a : Nat} (ha : a < 2 ^ 31) : nI a - nI a / 4 * 4 = nI (a % 4) := pk_rem (d := 4) ha (by decide) (by decide)
/-- uniqueness of the justified set -/
theorem vw_uniq {n : Nat} {st wh so ta g h : Nat → Int32} (ok : vw_ok n wh so ta) (hg : vw_F 128 n st wh so ta g) (hh : vw_F 128 n st wh so ta h) : ∀ c, c < 128 → (g c = 0 ↔ h c = 0) := by
  intro c
  induction c using Nat.strongRecOn with
  | ind c ih =>
    intro hc
    have key : ∀ (a b : Nat → Int32), vw_F 128 n st wh so ta a → vw_F 128 n st wh so ta b → (∀ m, m < c → m < 128 → (a m = 0 ↔ b m = 0)) → ¬ a c = 0 → ¬ b c = 0 := by
      intro a b ha hb hm hac
      refine (hb c hc).mpr ?_
      rcases (ha c hc).mp hac with h0 | ⟨i, hi, e, h1, h2⟩
      · exact Or.inl h0
      · refine Or.inr ⟨i, hi, e, ?_, h2⟩
        obtain ⟨w, s, t, hw, hs, ht, hst, e1, e2, e3⟩ := ok i hi
        have et : t = c := (nI_eq (by omega) (by omega)).mp (e3.symm.trans e)
        have es : (so i).toNatClampNeg = s := by rw [e2]; exact nI_clamp (by omega)
        rw [es] at h1 ⊢
        exact fun z => h1 ((hm s (by omega) hs).mpr z)
    have k1 := key g h hg hh (fun m hm h128 => ih m hm h128)
    have k2 := key h g hh hg (fun m hm h128 => (ih m hm h128).symm)
    constructor
    · intro z
      exact Classical.byContradiction fun y => k2 y z
    · intro z
      exact Classical.byContradiction fun y => k1 y z

/-- the two loop shapes: an early end, an accumulator -/
theorem vw_ex (n : Nat) (W : Nat → Nat → Prop) (Q : Nat → Prop) (A B : Prop) (step : ∀ m i, i < n → (Q i → A) → (¬ Q i → W m (i + 1)) → W (m + 1) i) (fin : ∀ m, B → W (m + 1) n) (h1 : (∃ i, i < n ∧ Q i) → A) (h0 : (¬ ∃ i, i < n ∧ Q i) → B) : W (n + 1) 0 := by
  have L : ∀ m i, i ≤ n → n - i < m → (∀ j, j < i → ¬ Q j) → W m i := by
    intro m
    induction m with
    | zero => intro i _ h; omega
    | succ m ih =>
      intro i hi hm hq
      by_cases e : i = n
      · rw [e] at hq ⊢
        exact fin m (h0 fun ⟨j, hj, q⟩ => hq j hj q)
      · have hlt : i < n := by omega
        exact step m i hlt (fun q => h1 ⟨i, hlt, q⟩) fun q => ih (i + 1) (by omega) (by omega) (lt_s hq q)
  exact L (n + 1) 0 (by omega) (by omega) lt_0
theorem vw_acc {σ : Type} (n : Nat) (W : Nat → Nat → σ → Prop) (f : Nat → σ) (step : ∀ m i, i < n → W m (i + 1) (f (i + 1)) → W (m + 1) i (f i)) (fin : ∀ m, W (m + 1) n (f n)) : W (n + 1) 0 (f 0) := by
  have L : ∀ m i, i ≤ n → n - i < m → W m i (f i) := by
    intro m
    induction m with
    | zero => intro i _ h; omega
    | succ m ih =>
      intro i hi hm
      by_cases e : i = n
      · rw [e]; exact fin m
      · exact step m i (by omega) (ih (i + 1) (by omega) (by omega))
  exact L (n + 1) 0 (by omega) (by omega)
/-- validators and checkpoints -/
theorem vw_nneg {p : Int32} {N : Nat} (hN : N < 2 ^ 31) (h : nI N ≤ p) : ¬ p < 0 := Int32.not_lt.mpr (Int32.le_trans (nI_pos' hN) h)
theorem vw_val (p : Int32) : (∃ j : Nat, j < 8 ∧ p = nI j ∧ (∀ post : Int32 → Prop, post 1 → wpX_isValidator post p) ∧ (∀ post : Int32 → Prop, post 0 → wpY_bad post p)) ∨ ((∀ post : Int32 → Prop, post 0 → wpX_isValidator post p) ∧ (∀ post : Int32 → Prop, post 1 → wpY_bad post p)) := by
  rcases pk_ix p (n := 8) (by decide) with h | h | ⟨j, hj, rfl⟩
  · exact Or.inr ⟨fun post hp => br_t h hp, fun post hp => br_t h hp⟩
  · have hn : ¬ p < 0 := vw_nneg (by decide) h
    have h7 : ¬ p ≤ 7 := fun z => absurd (Int32.le_trans h z) (by decide)
    exact Or.inr ⟨fun post hp => br_f hn (br_t h hp), fun post hp => br_f hn (br_f h7 hp)⟩
  · have hn : ¬ nI j < 0 := nI_pos (by omega)
    have h8 : ¬ (8 : Int32) ≤ nI j := nI_ge (b := 8) hj (by decide)
    have h7 : nI j ≤ 7 := nI_le (b := 7) (by omega) (by decide)
    exact Or.inl ⟨j, hj, rfl, fun post hp => br_f hn (br_f h8 hp), fun post hp => br_f hn (br_t h7 hp)⟩
theorem vw_ck (p : Int32) : (∃ j : Nat, j < 128 ∧ p = nI j ∧ (∀ post : Int32 → Prop, post 1 → wpX_isCheckpoint post p) ∧ (∀ post : Int32 → Prop, post 0 → wpY_badPoint post p)) ∨ ((∀ post : Int32 → Prop, post 0 → wpX_isCheckpoint post p) ∧ (∀ post : Int32 → Prop, post 1 → wpY_badPoint post p)) := by
  rcases pk_ix p (n := 128) (by decide) with h | h | ⟨j, hj, rfl⟩
  · exact Or.inr ⟨fun post hp => br_t h hp, fun post hp => br_t h hp⟩
  · have hn : ¬ p < 0 := vw_nneg (by decide) h
    have h7 : 127 < p := Int32.lt_of_lt_of_le (by decide) h
    exact Or.inr ⟨fun post hp => br_f hn (br_t h hp), fun post hp => br_f hn (br_t h7 hp)⟩
  · have hn : ¬ nI j < 0 := nI_pos (by omega)
    have h8 : ¬ (128 : Int32) ≤ nI j := nI_ge (b := 128) hj (by decide)
    have h7 : ¬ (127 : Int32) < nI j := nI_nlt (a := 127) (by omega) (by decide)
    have er := vw_r4 (a := j) (by omega)
    by_cases h3 : j % 4 = 3
    · refine Or.inr ⟨fun post hp => br_f hn (br_f h8 ⟨vw_4, ?_⟩), fun post hp => br_f hn (br_f h7 ⟨vw_4, ?_⟩)⟩
      · rw [er, h3]; exact br_t (by decide) hp
      · rw [er, h3]; exact br_t (by decide) hp
    · refine Or.inl ⟨j, hj, rfl, fun post hp => br_f hn (br_f h8 ⟨vw_4, ?_⟩), fun post hp => br_f hn (br_f h7 ⟨vw_4, ?_⟩)⟩
      · rw [er]; exact br_f (nI_ge (a := j % 4) (b := 3) (by omega) (by decide)) hp
      · rw [er]; exact br_f (fun z => h3 ((nI_eq (a := j % 4) (b := 3) (by omega) (by decide)).mp z)) hp
