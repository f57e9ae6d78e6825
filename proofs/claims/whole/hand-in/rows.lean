section
theorem pk_us {f : Nat → Int32} {k : Nat} {x : Int32} : upd f k x k = x := if_pos rfl
theorem pk_un {f : Nat → Int32} {k j : Nat} {x : Int32} (h : j ≠ k) : upd f k x j = f j := if_neg h
theorem pk_sub {a b : Nat} (h : b ≤ a) : nI a - nI b = nI (a - b) := by
  obtain ⟨c, rfl⟩ : ∃ c, a = c + b := ⟨a - b, by omega⟩
  rw [← nI_add, Int32.add_sub_cancel, Nat.add_sub_cancel]
theorem pk_mul (a b : Nat) : nI a * nI b = nI (a * b) := (Int32.ofNat_mul a b).symm
theorem pk_div {a d : Nat} (ha : a < 2 ^ 31) (h0 : 0 < d) (hd : d < 2 ^ 31) : nI a / nI d = nI (a / d) := by
  apply Int32.toInt_inj.mp
  rw [lg_idiv_nonneg (by rw [nI_toInt ha]; omega) (by rw [nI_toInt hd]; omega), nI_toInt ha, nI_toInt hd, nI_toInt (Nat.lt_of_le_of_lt (Nat.div_le_self a d) ha)]
  first | rfl | exact (Int.natCast_ediv _ _).symm
theorem pk_rem {a d : Nat} (ha : a < 2 ^ 31) (h0 : 0 < d) (hd : d < 2 ^ 31) : nI a - nI a / nI d * nI d = nI (a % d) := by
  rw [pk_div ha h0 hd, pk_mul, pk_sub (Nat.div_mul_le_self a d)]
  exact congrArg nI (by have := Nat.div_add_mod' a d; omega)
theorem pk_sub_toInt {a b : Nat} (ha : a < 2 ^ 30) (hb : b < 2 ^ 30) : (nI a - nI b).toInt = (a : Int) - b := by
  rw [Int32.toInt_sub, nI_toInt (by omega), nI_toInt (by omega)]
  exact Int.bmod_eq_of_le (by omega) (by omega)
theorem pk_ix (x : Int32) {n : Nat} (hn : n < 2 ^ 31) : x < 0 ∨ nI n ≤ x ∨ ∃ j : Nat, j < n ∧ x = nI j := by
  by_cases h : x < 0
  · exact Or.inl h
  · obtain ⟨j, hj, rfl⟩ := nI_of h
    by_cases h2 : j < n
    · exact Or.inr (Or.inr ⟨j, h2, rfl⟩)
    · exact Or.inr (Or.inl (nI_le (by omega) hj))
theorem pk_le {x y : Int32} {A B : Prop} (a b : Nat) (f : a ≤ b → A) (g : b < a → B) (hx : x = nI a := by rfl) (hy : y = nI b := by rfl) (ha : a < 2 ^ 31 := by omega) (hb : b < 2 ^ 31 := by omega) : (x ≤ y → A) ∧ (¬ x ≤ y → B) := by
  subst hx hy
  rw [nI_leI ha hb]
  exact ⟨f, fun z => g (by omega)⟩
theorem pk_lt {x y : Int32} {A B : Prop} (a b : Nat) (f : a < b → A) (g : b ≤ a → B) (hx : x = nI a := by rfl) (hy : y = nI b := by rfl) (ha : a < 2 ^ 31 := by omega) (hb : b < 2 ^ 31 := by omega) : (x < y → A) ∧ (¬ x < y → B) := by
  subst hx hy
  rw [nI_ltI ha hb]
  exact ⟨f, fun z => g (by omega)⟩
theorem pk_eq {x y : Int32} {A B : Prop} (a b : Nat) (f : a = b → A) (g : a ≠ b → B) (hx : x = nI a := by rfl) (hy : y = nI b := by rfl) (ha : a < 2 ^ 31 := by omega) (hb : b < 2 ^ 31 := by omega) : (x = y → A) ∧ (¬ x = y → B) := by
  subst hx hy
  rw [nI_eq ha hb]
  exact ⟨f, g⟩
/-- sums and the pure picture of a state -/
def vw_sup (st wh so ta : Nat → Int32) (c d : Int32) : Nat → Int32
  | 0 => 0
  | n + 1 => if so n = c ∧ ta n = d then vw_sup st wh so ta c d n + st (wh n).toNatClampNeg else vw_sup st wh so ta c d n
def vw_tot (st : Nat → Int32) : Nat → Int32
  | 0 => 0
  | n + 1 => vw_tot st n + st n
def vw_S (n : Nat) (st wh so ta : Nat → Int32) (c d : Int32) : Prop := ¬ 3 * vw_sup st wh so ta c d n ≤ 2 * vw_tot st 8
def vw_ok (n : Nat) (wh so ta : Nat → Int32) : Prop := ∀ i, i < n → ∃ w s t : Nat, w < 8 ∧ s < 128 ∧ t < 128 ∧ s / 4 < t / 4 ∧ wh i = nI w ∧ so i = nI s ∧ ta i = nI t
abbrev vw_sur (s t u w : Int32) : Prop := ¬ u / 4 ≤ s / 4 ∧ ¬ t / 4 ≤ w / 4
def vw_bad2 (so ta : Nat → Int32) (i j : Nat) : Prop := ta i / 4 = ta j / 4 ∨ vw_sur (so i) (ta i) (so j) (ta j)
def vw_Off (n : Nat) (wh so ta : Nat → Int32) (v : Int32) : Prop := ∃ i j : Nat, i < n ∧ j < n ∧ i ≠ j ∧ wh i = v ∧ wh j = v ∧ vw_bad2 so ta i j
def vw_F (b n : Nat) (st wh so ta : Nat → Int32) (g : Nat → Int32) : Prop := ∀ c, c < b → (¬ g c = 0 ↔ (c = 0 ∨ ∃ i, i < n ∧ ta i = nI c ∧ ¬ g (so i).toNatClampNeg = 0 ∧ vw_S n st wh so ta (so i) (nI c)))
def i_Rel (_ : Nat) (u : SX) (v : SY) : Prop := ∃ (n : Nat) (st ofs wh so ta mk ju : Nat → Int32), u = (nI n, st, ofs, wh, so, ta, mk) ∧ v = (nI n, st, wh, so, ta, ju) ∧ n ≤ 64 ∧ vw_ok n wh so ta ∧ ∀ x, x < 8 → (ofs x = 0 ↔ ¬ vw_Off n wh so ta (nI x))
theorem i_up {k : Nat} {u : SX} {v : SY} (h : i_Rel k u v) : i_Rel (k + 4) u v := h
theorem vw_n1 : vp_nar .boolean 1 = 1 := by decide
theorem vw_n0 : vp_nar .boolean 0 = 0 := by decide
theorem vw_4 : ¬ (4 : Int32) = 0 := by decide
theorem vw_10 : ¬ (1 : Int32) = 0 := by decide
theorem vw_c4 {a : Nat} (ha : a < 2 ^ 31) : nI a / 4 = nI (a / 4) := pk_div (d := 4) ha (by decide) (by decide)
theorem vw_r4 {a : Nat} (ha : a < 2 ^ 31) : nI a - nI a / 4 * 4 = nI (a % 4) := pk_rem (d := 4) ha (by decide) (by decide)
/-- uniqueness of the justified set -/
theorem vw_uniq {n : Nat} {st wh so ta g h : Nat → Int32} (ok : vw_ok n wh so ta) (hg : vw_F 128 n st wh so ta g) (hh : vw_F 128 n st wh so ta h) : ∀ c, c < 128 → (g c = 0 ↔ h c = 0) := by
  intro c
  induction c using Nat.strongRecOn with
  | ind c ih =>
    intro hc
    have key : ∀ (a b : Nat → Int32), vw_F 128 n st wh so ta a → vw_F 128 n st wh so ta b → (∀ m, m < c → m < 128 → (a m = 0 ↔ b m = 0)) → ¬ a c = 0 → ¬ b c = 0 := by
      intro a b ha hb hm hac
      refine (hb c hc).mpr ?_
      rcases (ha c hc).mp hac with h0 | ⟨i, hi, e, h1, h2⟩
      · exact Or.inl h0
      · refine Or.inr ⟨i, hi, e, ?_, h2⟩
        obtain ⟨w, s, t, hw, hs, ht, hst, e1, e2, e3⟩ := ok i hi
        have et : t = c := (nI_eq (by omega) (by omega)).mp (e3.symm.trans e)
        have es : (so i).toNatClampNeg = s := by rw [e2]; exact nI_clamp (by omega)
        rw [es] at h1 ⊢
        exact fun z => h1 ((hm s (by omega) hs).mpr z)
    have k1 := key g h hg hh (fun m hm h128 => ih m hm h128)
    have k2 := key h g hh hg (fun m hm h128 => (ih m hm h128).symm)
    constructor
    · intro z
      exact Classical.byContradiction fun y => k2 y z
    · intro z
      exact Classical.byContradiction fun y => k1 y z

/-- the two loop shapes: an early end, an accumulator -/
theorem vw_ex (n : Nat) (W : Nat → Nat → Prop) (Q : Nat → Prop) (A B : Prop) (step : ∀ m i, i < n → (Q i → A) → (¬ Q i → W m (i + 1)) → W (m + 1) i) (fin : ∀ m, B → W (m + 1) n) (h1 : (∃ i, i < n ∧ Q i) → A) (h0 : (¬ ∃ i, i < n ∧ Q i) → B) : W (n + 1) 0 := by
  have L : ∀ m i, i ≤ n → n - i < m → (∀ j, j < i → ¬ Q j) → W m i := by
    intro m
    induction m with
    | zero => intro i _ h; omega
    | succ m ih =>
      intro i hi hm hq
      by_cases e : i = n
      · rw [e] at hq ⊢
        exact fin m (h0 fun ⟨j, hj, q⟩ => hq j hj q)
      · have hlt : i < n := by omega
        exact step m i hlt (fun q => h1 ⟨i, hlt, q⟩) fun q => ih (i + 1) (by omega) (by omega) (lt_s hq q)
  exact L (n + 1) 0 (by omega) (by omega) lt_0
theorem vw_acc {σ : Type} (n : Nat) (W : Nat → Nat → σ → Prop) (f : Nat → σ) (step : ∀ m i, i < n → W m (i + 1) (f (i + 1)) → W (m + 1) i (f i)) (fin : ∀ m, W (m + 1) n (f n)) : W (n + 1) 0 (f 0) := by
  have L : ∀ m i, i ≤ n → n - i < m → W m i (f i) := by
    intro m
    induction m with
    | zero => intro i _ h; omega
    | succ m ih =>
      intro i hi hm
      by_cases e : i = n
      · rw [e]; exact fin m
      · exact step m i (by omega) (ih (i + 1) (by omega) (by omega))
  exact L (n + 1) 0 (by omega) (by omega)
/-- validators and checkpoints -/
theorem vw_nneg {p : Int32} {N : Nat} (hN : N < 2 ^ 31) (h : nI N ≤ p) : ¬ p < 0 := Int32.not_lt.mpr (Int32.le_trans (nI_pos' hN) h)
theorem vw_val (p : Int32) : (∃ j : Nat, j < 8 ∧ p = nI j ∧ (∀ post : Int32 → Prop, post 1 → wpX_isValidator post p) ∧ (∀ post : Int32 → Prop, post 0 → wpY_bad post p)) ∨ ((∀ post : Int32 → Prop, post 0 → wpX_isValidator post p) ∧ (∀ post : Int32 → Prop, post 1 → wpY_bad post p)) := by
  rcases pk_ix p (n := 8) (by decide) with h | h | ⟨j, hj, rfl⟩
  · exact Or.inr ⟨fun post hp => br_t h hp, fun post hp => br_t h hp⟩
  · have hn : ¬ p < 0 := vw_nneg (by decide) h
    have h7 : ¬ p ≤ 7 := fun z => absurd (Int32.le_trans h z) (by decide)
    exact Or.inr ⟨fun post hp => br_f hn (br_t h hp), fun post hp => br_f hn (br_f h7 hp)⟩
  · have hn : ¬ nI j < 0 := nI_pos (by omega)
    have h8 : ¬ (8 : Int32) ≤ nI j := nI_ge (b := 8) hj (by decide)
    have h7 : nI j ≤ 7 := nI_le (b := 7) (by omega) (by decide)
    exact Or.inl ⟨j, hj, rfl, fun post hp => br_f hn (br_f h8 hp), fun post hp => br_f hn (br_t h7 hp)⟩
theorem vw_ck (p : Int32) : (∃ j : Nat, j < 128 ∧ p = nI j ∧ (∀ post : Int32 → Prop, post 1 → wpX_isCheckpoint post p) ∧ (∀ post : Int32 → Prop, post 0 → wpY_badPoint post p)) ∨ ((∀ post : Int32 → Prop, post 0 → wpX_isCheckpoint post p) ∧ (∀ post : Int32 → Prop, post 1 → wpY_badPoint post p)) := by
  rcases pk_ix p (n := 128) (by decide) with h | h | ⟨j, hj, rfl⟩
  · exact Or.inr ⟨fun post hp => br_t h hp, fun post hp => br_t h hp⟩
  · have hn : ¬ p < 0 := vw_nneg (by decide) h
    have h7 : 127 < p := Int32.lt_of_lt_of_le (by decide) h
    exact Or.inr ⟨fun post hp => br_f hn (br_t h hp), fun post hp => br_f hn (br_t h7 hp)⟩
  · have hn : ¬ nI j < 0 := nI_pos (by omega)
    have h8 : ¬ (128 : Int32) ≤ nI j := nI_ge (b := 128) hj (by decide)
    have h7 : ¬ (127 : Int32) < nI j := nI_nlt (a := 127) (by omega) (by decide)
    have er := vw_r4 (a := j) (by omega)
    by_cases h3 : j % 4 = 3
    · refine Or.inr ⟨fun post hp => br_f hn (br_f h8 ⟨vw_4, ?_⟩), fun post hp => br_f hn (br_f h7 ⟨vw_4, ?_⟩)⟩
      · rw [er, h3]; exact br_t (by decide) hp
      · rw [er, h3]; exact br_t (by decide) hp
    · refine Or.inl ⟨j, hj, rfl, fun post hp => br_f hn (br_f h8 ⟨vw_4, ?_⟩), fun post hp => br_f hn (br_f h7 ⟨vw_4, ?_⟩)⟩
      · rw [er]; exact br_f (nI_ge (a := j % 4) (b := 3) (by omega) (by decide)) hp
      · rw [er]; exact br_f (fun z => h3 ((nI_eq (a := j % 4) (b := 3) (by omega) (by decide)).mp z)) hp
end
section
/-- support and total of side X -/
theorem vw_supX (post : Int32 → Prop) (n : Nat) (st ofs wh so ta mk : Nat → Int32) (c d : Int32) (hn : n ≤ 64) (ok : vw_ok n wh so ta) (hp : post (vw_sup st wh so ta c d n)) : wpX_stakeBehind post (nI n, st, ofs, wh, so, ta, mk) c d := by
  refine ⟨n + 1, ?_⟩
  refine vw_acc n (fun m i s => wX_stakeBehind_5 post c d (nI n) st ofs wh so ta mk m s (nI i)) (vw_sup st wh so ta c d) ?_ ?_
  · intro m i hlt ih
    have hcl : (nI i).toNatClampNeg = i := nI_clamp (by omega)
    have hin : vp_in (nI i) 64 := vp_in_nI (by omega) (by decide)
    obtain ⟨w, s, t, hw, hs, ht, hst, e1, e2, e3⟩ := ok i hlt
    refine br_f (nI_ge hlt (by omega)) ⟨hin, ?_⟩
    rw [hcl]
    by_cases h1 : so i = c
    · refine br_t h1 ⟨hin, ?_⟩
      by_cases h2 : ta i = d
      · have es : vw_sup st wh so ta c d (i + 1) = vw_sup st wh so ta c d i + st (wh i).toNatClampNeg := if_pos ⟨h1, h2⟩
        exact br_t h2 ⟨hin, by rw [e1]; exact vp_in_nI hw (by decide), nm_r es.symm (nm_r (nI_1 i) ih)⟩
      · have es : vw_sup st wh so ta c d (i + 1) = vw_sup st wh so ta c d i := if_neg fun z => h2 z.2
        rw [es] at ih
        exact br_f h2 (nm_r (nI_1 i) ih)
    · have es : vw_sup st wh so ta c d (i + 1) = vw_sup st wh so ta c d i := if_neg fun z => h1 z.1
      rw [es] at ih
      exact br_f h1 (nm_r (nI_1 i) ih)
  · intro m
    exact br_t (Int32.le_refl _) hp
theorem vw_totX (post : Int32 → Prop) (n : Nat) (st ofs wh so ta mk : Nat → Int32) (hp : post (vw_tot st 8)) : wpX_totalStake post (nI n, st, ofs, wh, so, ta, mk) := by
  refine ⟨8 + 1, ?_⟩
  refine vw_acc 8 (fun m i s => wX_totalStake_4 post (nI n) st ofs wh so ta mk m s (nI i)) (vw_tot st) ?_ ?_
  · intro m i hlt ih
    have hcl : (nI i).toNatClampNeg = i := nI_clamp (by omega)
    have hin : vp_in (nI i) 8 := vp_in_nI hlt (by decide)
    refine br_f (nI_ge (b := 8) hlt (by decide)) ⟨hin, ?_⟩
    rw [hcl]
    exact nm_r (e' := vw_tot st (i + 1)) rfl (nm_r (nI_1 i) ih)
  · intro m
    exact br_t (by decide) hp
theorem vw_suX (post : Int32 → Prop) (n : Nat) (st ofs wh so ta mk : Nat → Int32) (c d : Int32) (hn : n ≤ 64) (ok : vw_ok n wh so ta) (h1 : vw_S n st wh so ta c d → post 1) (h0 : ¬ vw_S n st wh so ta c d → post 0) : wpX_isSupported post (nI n, st, ofs, wh, so, ta, mk) c d := by
  unfold wpX_isSupported
  dsimp only
  refine vw_supX _ n st ofs wh so ta mk c d hn ok ?_
  refine vw_totX _ n st ofs wh so ta mk ?_
  exact br_c (fun z => h0 fun y => y z) fun z => h1 z
/-- support and total of side Y -/
theorem vw_supY (post : Int32 → Prop) (n : Nat) (st wh so ta ju : Nat → Int32) (c d : Int32) (hn : n ≤ 64) (ok : vw_ok n wh so ta) (hp : post (vw_sup st wh so ta c d n)) : wpY_support post (nI n, st, wh, so, ta, ju) c d := by
  refine ⟨n + 1, ?_⟩
  refine vw_acc n (fun m i s => wY_support_5 post c d (nI n) st wh so ta ju m s (nI i)) (vw_sup st wh so ta c d) ?_ ?_
  · intro m i hlt ih
    have hcl : (nI i).toNatClampNeg = i := nI_clamp (by omega)
    have hin : vp_in (nI i) 64 := vp_in_nI (by omega) (by decide)
    obtain ⟨w, s, t, hw, hs, ht, hst, e1, e2, e3⟩ := ok i hlt
    refine br_f (nI_ge hlt (by omega)) ⟨hin, ?_⟩
    rw [hcl]
    by_cases h1 : so i = c
    · refine br_t h1 ⟨hin, ?_⟩
      by_cases h2 : ta i = d
      · have es : vw_sup st wh so ta c d (i + 1) = vw_sup st wh so ta c d i + st (wh i).toNatClampNeg := if_pos ⟨h1, h2⟩
        exact br_t h2 ⟨hin, by rw [e1]; exact vp_in_nI hw (by decide), nm_r es.symm (nm_r (nI_1 i) ih)⟩
      · have es : vw_sup st wh so ta c d (i + 1) = vw_sup st wh so ta c d i := if_neg fun z => h2 z.2
        rw [es] at ih
        exact br_f h2 (nm_r (nI_1 i) ih)
    · have es : vw_sup st wh so ta c d (i + 1) = vw_sup st wh so ta c d i := if_neg fun z => h1 z.1
      rw [es] at ih
      exact br_f h1 (nm_r (nI_1 i) ih)
  · intro m
    exact br_t (Int32.le_refl _) hp
theorem vw_totY (post : Int32 → Prop) (n : Nat) (st wh so ta ju : Nat → Int32) (hp : post (vw_tot st 8)) : wpY_total post (nI n, st, wh, so, ta, ju) := by
  refine ⟨8 + 1, ?_⟩
  refine vw_acc 8 (fun m i s => wY_total_4 post (nI n) st wh so ta ju m s (nI i)) (vw_tot st) ?_ ?_
  · intro m i hlt ih
    have hcl : (nI i).toNatClampNeg = i := nI_clamp (by omega)
    have hin : vp_in (nI i) 8 := vp_in_nI hlt (by decide)
    refine br_f (nI_ge (b := 8) hlt (by decide)) ⟨hin, ?_⟩
    rw [hcl]
    exact nm_r (e' := vw_tot st (i + 1)) rfl (nm_r (nI_1 i) ih)
  · intro m
    exact br_t (by decide) hp
theorem vw_suY (post : Int32 → Prop) (n : Nat) (st wh so ta ju : Nat → Int32) (c d : Int32) (hn : n ≤ 64) (ok : vw_ok n wh so ta) (h1 : vw_S n st wh so ta c d → post 1) (h0 : ¬ vw_S n st wh so ta c d → post 0) : wpY_supported post (nI n, st, wh, so, ta, ju) c d := by
  unfold wpY_supported
  dsimp only
  refine vw_supY _ n st wh so ta ju c d hn ok ?_
  refine vw_totY _ n st wh so ta ju ?_
  exact br_c (fun z => h0 fun y => y z) fun z => h1 z
end
section
/-- X: the marks, upwards -/
theorem vw_hsX (post : Int32 → Prop) (n : Nat) (st ofs wh so ta mk : Nat → Int32) (x : Int32) (hn : n ≤ 64) (ok : vw_ok n wh so ta) (h1 : (∃ i, i < n ∧ ta i = x ∧ ¬ mk (so i).toNatClampNeg = 0 ∧ vw_S n st wh so ta (so i) x) → post 1) (h0 : (¬ ∃ i, i < n ∧ ta i = x ∧ ¬ mk (so i).toNatClampNeg = 0 ∧ vw_S n st wh so ta (so i) x) → post 0) : wpX_hasSupportedSource post (nI n, st, ofs, wh, so, ta, mk) x := by
  refine ⟨n + 1, ?_⟩
  refine vw_ex n (fun m i => wX_hasSupportedSource_2 post x (nI n) st ofs wh so ta mk m (nI i)) (fun i => ta i = x ∧ ¬ mk (so i).toNatClampNeg = 0 ∧ vw_S n st wh so ta (so i) x) (post 1) (post 0) ?_ ?_ h1 h0
  · intro m i hlt hA hB
    have hcl : (nI i).toNatClampNeg = i := nI_clamp (by omega)
    have hin : vp_in (nI i) 64 := vp_in_nI (by omega) (by decide)
    obtain ⟨w, s, t, hw, hs, ht, hst, e1, e2, e3⟩ := ok i hlt
    refine br_f (nI_ge hlt (by omega)) ⟨hin, ?_⟩
    rw [hcl]
    by_cases g1 : ta i = x
    · refine br_t g1 ⟨hin, by rw [e2]; exact vp_in_nI hs (by decide), ?_⟩
      by_cases g2 : mk (so i).toNatClampNeg = 0
      · exact br_t g2 (nm_r (nI_1 i) (hB fun q => q.2.1 g2))
      · refine br_f g2 ⟨hin, ?_⟩
        refine vw_suX _ n st ofs wh so ta mk (so i) x hn ok ?_ ?_
        · intro g3
          exact br_f vw_10 (hA ⟨g1, g2, g3⟩)
        · intro g3
          exact br_t rfl (nm_r (nI_1 i) (hB fun q => g3 q.2.2))
    · exact br_f g1 (nm_r (nI_1 i) (hB fun q => g1 q.1))
  · intro m hb
    exact br_t (Int32.le_refl _) hb
theorem vw_stepF {n c : Nat} {st wh so ta mk : Nat → Int32} (ok : vw_ok n wh so ta) (hc : c < 128) (I : vw_F c n st wh so ta mk) (b : Int32) (hb : ¬ b = 0 ↔ (c = 0 ∨ ∃ i, i < n ∧ ta i = nI c ∧ ¬ mk (so i).toNatClampNeg = 0 ∧ vw_S n st wh so ta (so i) (nI c))) : vw_F (c + 1) n st wh so ta (upd mk c b) := by
  intro d hd
  have hx : ∀ i, i < n → ta i = nI d → upd mk c b (so i).toNatClampNeg = mk (so i).toNatClampNeg := by
    intro i hi e
    obtain ⟨w, s, t, hw, hs, ht, hst, e1, e2, e3⟩ := ok i hi
    have et : t = d := (nI_eq (by omega) (by omega)).mp (e3.symm.trans e)
    have es : (so i).toNatClampNeg = s := by rw [e2]; exact nI_clamp (by omega)
    rw [es]
    exact pk_un (by omega)
  have hE : (∃ i, i < n ∧ ta i = nI d ∧ ¬ upd mk c b (so i).toNatClampNeg = 0 ∧ vw_S n st wh so ta (so i) (nI d)) ↔ (∃ i, i < n ∧ ta i = nI d ∧ ¬ mk (so i).toNatClampNeg = 0 ∧ vw_S n st wh so ta (so i) (nI d)) := by
    constructor
    · rintro ⟨i, a1, a2, a3, a4⟩
      rw [hx i a1 a2] at a3
      exact ⟨i, a1, a2, a3, a4⟩
    · rintro ⟨i, a1, a2, a3, a4⟩
      rw [← hx i a1 a2] at a3
      exact ⟨i, a1, a2, a3, a4⟩
  rw [hE]
  by_cases e : d = c
  · rw [e, pk_us]; exact hb
  · rw [pk_un e]; exact I d (by omega)
theorem vw_mjX (post : SX → Prop) (n : Nat) (st ofs wh so ta mk : Nat → Int32) (hn : n ≤ 64) (ok : vw_ok n wh so ta) (hp : ∀ g, vw_F 128 n st wh so ta g → post (nI n, st, ofs, wh, so, ta, g)) : wpX_markJustified post (nI n, st, ofs, wh, so, ta, mk) := by
  refine loop_0 (fun m c g => wX_markJustified_2 post (nI n) m (nI c) st ofs wh so ta g) (fun c g => vw_F c n st wh so ta g) 128 mk (fun c hc => absurd hc (by omega)) ?_ ?_
  · intro m g hg
    exact br_t (by decide) (hp g hg)
  · intro m c g hc hg ih
    have hcl : (nI c).toNatClampNeg = c := nI_clamp (by omega)
    have hin : vp_in (nI c) 128 := vp_in_nI (by omega) (by decide)
    refine br_f (nI_ge (b := 128) hc (by decide)) ?_
    by_cases z : c = 0
    · have hz : nI c = 0 := by rw [z]; rfl
      refine br_t hz ⟨hin, ?_⟩
      rw [hcl, vw_n1]
      exact nm_e (nm_r (nI_1 c) (ih _ (vw_stepF ok hc hg 1 ⟨fun _ => Or.inl z, fun _ => vw_10⟩)))
    · refine br_f (nI_ne0 (by omega) (by omega)) ?_
      refine vw_hsX _ n st ofs wh so ta g (nI c) hn ok ?_ ?_
      · intro hex
        refine br_f vw_10 ⟨hin, ?_⟩
        rw [hcl, vw_n1]
        exact nm_e (nm_r (nI_1 c) (ih _ (vw_stepF ok hc hg 1 ⟨fun _ => Or.inr hex, fun _ => vw_10⟩)))
      · intro hex
        refine br_t rfl ⟨hin, ?_⟩
        rw [hcl, vw_n0]
        exact nm_e (nm_r (nI_1 c) (ih _ (vw_stepF ok hc hg 0 ⟨fun y => absurd rfl y, fun y => absurd y (fun y => y.elim z hex)⟩)))
/-- Y: the rounds -/
def vw_cnt (ta ju : Nat → Int32) : Nat → Nat
  | 0 => 0
  | n + 1 => vw_cnt ta ju n + (if ju (ta n).toNatClampNeg = 0 then 1 else 0)
theorem vw_cnt_n (ta ju : Nat → Int32) : ∀ n, vw_cnt ta ju n ≤ n := by
  intro n
  induction n with
  | zero => exact Nat.le_refl _
  | succ n ih =>
    show vw_cnt ta ju n + (if ju (ta n).toNatClampNeg = 0 then 1 else 0) ≤ n + 1
    split <;> omega
theorem vw_cnt_u (ta ju : Nat → Int32) (t : Nat) : ∀ n, vw_cnt ta (upd ju t 1) n ≤ vw_cnt ta ju n := by
  intro n
  induction n with
  | zero => exact Nat.le_refl _
  | succ n ih =>
    show vw_cnt ta (upd ju t 1) n + (if upd ju t 1 (ta n).toNatClampNeg = 0 then 1 else 0) ≤ vw_cnt ta ju n + (if ju (ta n).toNatClampNeg = 0 then 1 else 0)
    by_cases e : (ta n).toNatClampNeg = t
    · rw [e, pk_us, if_neg vw_10]; omega
    · rw [pk_un e]; omega
theorem vw_cnt_d (ta ju : Nat → Int32) (t : Nat) (hj : ju t = 0) (i : Nat) (hi : (ta i).toNatClampNeg = t) : ∀ n, i < n → vw_cnt ta (upd ju t 1) n + 1 ≤ vw_cnt ta ju n := by
  intro n
  induction n with
  | zero => intro h; omega
  | succ n ih =>
    intro h
    show vw_cnt ta (upd ju t 1) n + (if upd ju t 1 (ta n).toNatClampNeg = 0 then 1 else 0) + 1 ≤ vw_cnt ta ju n + (if ju (ta n).toNatClampNeg = 0 then 1 else 0)
    have hu := vw_cnt_u ta ju t n
    by_cases e : (ta n).toNatClampNeg = t
    · rw [e, pk_us, if_neg vw_10, if_pos hj]; omega
    · have hin : i < n := by
        rcases Nat.lt_or_ge i n with h' | h'
        · exact h'
        · have : i = n := by omega
          rw [this] at hi
          exact absurd hi e
      have := ih hin
      rw [pk_un e]; omega
def vw_snd (n : Nat) (st wh so ta ju : Nat → Int32) : Prop := ∀ c, c < 128 → ¬ ju c = 0 → (c = 0 ∨ ∃ i, i < n ∧ ta i = nI c ∧ ¬ ju (so i).toNatClampNeg = 0 ∧ vw_S n st wh so ta (so i) (nI c))
def vw_cls (n k : Nat) (st wh so ta ju : Nat → Int32) : Prop := ∀ i, i < k → ¬ ju (so i).toNatClampNeg = 0 → vw_S n st wh so ta (so i) (ta i) → ¬ ju (ta i).toNatClampNeg = 0
theorem vw_FY {n : Nat} {st wh so ta ju : Nat → Int32} (hs : vw_snd n st wh so ta ju) (h0 : ¬ ju 0 = 0) (hc : vw_cls n n st wh so ta ju) : vw_F 128 n st wh so ta ju := by
  intro c h
  refine ⟨hs c h, ?_⟩
  rintro (z | ⟨i, hi, e, a, b⟩)
  · rw [z]; exact h0
  · rw [← e] at b
    have := hc i hi a b
    rw [e, nI_clamp (by omega)] at this
    exact this
theorem vw_mono {ju : Nat → Int32} (t : Nat) {x : Nat} (h : ¬ ju x = 0) : ¬ upd ju t 1 x = 0 := by
  by_cases e : x = t
  · rw [e, pk_us]; exact vw_10
  · rw [pk_un e]; exact h
theorem vw_sndU {n : Nat} {st wh so ta ju : Nat → Int32} (hs : vw_snd n st wh so ta ju) {t i : Nat} (hi : i < n) (et : ta i = nI t) (h1 : ¬ ju (so i).toNatClampNeg = 0) (h2 : vw_S n st wh so ta (so i) (nI t)) : vw_snd n st wh so ta (upd ju t 1) := by
  intro c hc h
  by_cases e : c = t
  · rw [e]
    exact Or.inr ⟨i, hi, et, vw_mono t h1, h2⟩
  · rw [pk_un e] at h
    rcases hs c hc h with z | ⟨j, hj, a, b, d⟩
    · exact Or.inl z
    · exact Or.inr ⟨j, hj, a, vw_mono t b, d⟩
/-- one round: from s.1 = 0 -/
def vw_I (n c0 : Nat) (st wh so ta : Nat → Int32) (i : Nat) (s : Int32 × (Nat → Int32)) : Prop := vw_snd n st wh so ta s.2 ∧ ¬ s.2 0 = 0 ∧ (s.1 = 0 → vw_cls n i st wh so ta s.2) ∧ vw_cnt ta s.2 n ≤ c0 ∧ (¬ s.1 = 0 → vw_cnt ta s.2 n + 1 ≤ c0)
theorem vw_rndY (post : SY → Prop) (J : Int32 → Int32 → (Nat → Int32) → (Nat → Int32) → (Nat → Int32) → (Nat → Int32) → (Nat → Int32) → Prop) (n r c0 : Nat) (st wh so ta ju : Nat → Int32) (hn : n ≤ 64) (ok : vw_ok n wh so ta) (h : vw_I n c0 st wh so ta 0 (0, ju)) (hp : ∀ x g, vw_I n c0 st wh so ta n (x, g) → J x (nI (r + 1)) st wh so ta g) : ∃ m, wY_justify_48 post J (nI r) (nI n) m 0 0 st wh so ta ju := by
  refine loop_0 (fun m i (s : Int32 × (Nat → Int32)) => wY_justify_48 post J (nI r) (nI n) m s.1 (nI i) st wh so ta s.2) (vw_I n c0 st wh so ta) n (0, ju) h ?_ ?_
  · intro m s hs
    exact br_t (Int32.le_refl _) (nm_r (nI_1 r) (hp s.1 s.2 hs))
  · rintro m i ⟨x, g⟩ hlt ⟨a1, a2, a3, a4, a5⟩ ih
    have hcl : (nI i).toNatClampNeg = i := nI_clamp (by omega)
    have hin : vp_in (nI i) 64 := vp_in_nI (by omega) (by decide)
    obtain ⟨w, s, t, hw, hs, ht, hst, e1, e2, e3⟩ := ok i hlt
    have et : (ta i).toNatClampNeg = t := by rw [e3]; exact nI_clamp (by omega)
    have his : vp_in (so i) 128 := by rw [e2]; exact vp_in_nI hs (by decide)
    have hit : vp_in (ta i) 128 := by rw [e3]; exact vp_in_nI ht (by decide)
    have keep : (¬ g (so i).toNatClampNeg = 0 → vw_S n st wh so ta (so i) (ta i) → ¬ g (ta i).toNatClampNeg = 0) → wY_justify_48 post J (nI r) (nI n) m x (nI (i + 1)) st wh so ta g := fun q => ih (x, g) ⟨a1, a2, fun z => lt_s (a3 z) q, a4, a5⟩
    dsimp only at a1 a2 a3 a4 a5 ⊢
    refine br_f (nI_ge hlt (by omega)) ⟨hin, ?_⟩
    rw [hcl]
    refine ⟨his, ?_⟩
    by_cases g1 : g (so i).toNatClampNeg = 0
    · exact br_t g1 (nm_r (nI_1 i) (keep fun q => absurd g1 q))
    · refine br_f g1 ⟨hin, hit, ?_⟩
      by_cases g2 : g (ta i).toNatClampNeg = 0
      · refine br_t g2 ⟨hin, hin, ?_⟩
        refine vw_suY _ n st wh so ta g (so i) (ta i) hn ok ?_ ?_
        · intro g3
          refine br_f vw_10 ⟨hin, hit, ?_⟩
          rw [vw_n1, et]
          rw [et] at g2
          rw [e3] at g3
          have hd := vw_cnt_d ta g t g2 i et n hlt
          exact nm_e (nm_r (nI_1 i) (ih (1, upd g t 1) ⟨vw_sndU a1 hlt e3 g1 g3, vw_mono t a2, fun z => absurd z vw_10, by dsimp only; omega, fun _ => by dsimp only; omega⟩))
        · intro g3
          exact br_t rfl (nm_r (nI_1 i) (keep fun _ q => absurd q g3))
      · exact br_f g2 (nm_r (nI_1 i) (keep fun _ _ => g2))
theorem vw_rndsY (post : SY → Prop) (n : Nat) (st wh so ta ju : Nat → Int32) (hn : n ≤ 64) (ok : vw_ok n wh so ta) (h1 : vw_snd n st wh so ta ju) (h2 : ¬ ju 0 = 0) (hp : ∀ g, vw_F 128 n st wh so ta g → post (nI n, st, wh, so, ta, g)) : ∃ m, wY_justify_34 post (nI n) m 1 0 st wh so ta ju := by
  refine loop_0 (fun m r (s : Int32 × (Nat → Int32)) => wY_justify_34 post (nI n) m s.1 (nI r) st wh so ta s.2) (fun r s => vw_snd n st wh so ta s.2 ∧ ¬ s.2 0 = 0 ∧ (s.1 = 0 → vw_cls n n st wh so ta s.2) ∧ (¬ s.1 = 0 → vw_cnt ta s.2 n + r ≤ 64)) 65 (1, ju) ⟨h1, h2, fun z => absurd z vw_10, fun _ => by have := vw_cnt_n ta ju n; dsimp only; omega⟩ ?_ ?_
  · rintro m ⟨x, g⟩ ⟨a1, a2, a3, a4⟩
    dsimp only at a1 a2 a3 a4 ⊢
    have hx : x = 0 := Classical.byContradiction fun z => by have := a4 z; omega
    exact br_t (by decide) (hp g (vw_FY a1 a2 (a3 hx)))
  · rintro m r ⟨x, g⟩ hr ⟨a1, a2, a3, a4⟩ ih
    dsimp only at a1 a2 a3 a4 ⊢
    refine br_f (nI_ge (b := 65) hr (by decide)) ?_
    by_cases hx : x = 0
    · exact br_t hx (hp g (vw_FY a1 a2 (a3 hx)))
    · refine br_f hx ?_
      have h4 := a4 hx
      refine vw_rndY post _ n r (vw_cnt ta g n) st wh so ta g hn ok ⟨a1, a2, fun _ => lt_0, Nat.le_refl _, fun z => absurd rfl z⟩ ?_
      rintro y q ⟨b1, b2, b3, b4, b5⟩
      dsimp only at b1 b2 b3 b4 b5
      exact ih (y, q) ⟨b1, b2, b3, fun z => by have := b5 z; dsimp only; omega⟩
theorem vw_mjY (post : SY → Prop) (n : Nat) (st wh so ta ju : Nat → Int32) (hn : n ≤ 64) (ok : vw_ok n wh so ta) (hp : ∀ g, vw_F 128 n st wh so ta g → post (nI n, st, wh, so, ta, g)) : wpY_justify post (nI n, st, wh, so, ta, ju) := by
  refine loop_0 (fun m c g => wY_justify_2 post (nI n) m (nI c) st wh so ta g) (fun c g => ∀ d, d < c → (¬ g d = 0 ↔ d = 0)) 128 ju lt_0 ?_ ?_
  · intro m g hg
    refine br_t (by decide) ?_
    exact vw_rndsY post n st wh so ta g hn ok (fun c hc h => Or.inl ((hg c hc).mp h)) ((hg 0 (by omega)).mpr rfl) hp
  · intro m c g hc hg ih
    have hcl : (nI c).toNatClampNeg = c := nI_clamp (by omega)
    have hin : vp_in (nI c) 128 := vp_in_nI (by omega) (by decide)
    have hu : ∀ b : Int32, (¬ b = 0 ↔ c = 0) → ∀ d, d < c + 1 → (¬ upd g c b d = 0 ↔ d = 0) := by
      intro b hb d hd
      by_cases e : d = c
      · rw [e, pk_us]; exact hb
      · rw [pk_un e]; exact hg d (by omega)
    refine br_f (nI_ge (b := 128) hc (by decide)) ?_
    by_cases z : c = 0
    · have hz : nI c = 0 := by rw [z]; rfl
      refine br_t hz ⟨hin, ?_⟩
      rw [hcl, vw_n1]
      exact nm_e (nm_r (nI_1 c) (ih _ (hu 1 ⟨fun _ => z, fun _ => vw_10⟩)))
    · refine br_f (nI_ne0 (by omega) (by omega)) ⟨hin, ?_⟩
      rw [hcl, vw_n0]
      exact nm_e (nm_r (nI_1 c) (ih _ (hu 0 ⟨fun y => absurd rfl y, fun y => absurd y z⟩)))
end
section
/-- the constructors -/
def vw_st0 : Nat → (Nat → Int32)
  | 0 => fun _ => 0
  | n + 1 => upd (vw_st0 n) n 1
theorem i_vc0 : wpX_init (fun u => wpY_init (fun v => i_Rel 0 u v)) := by
  refine ⟨8 + 1, ?_⟩
  refine vw_acc 8 (fun m i s => wX_init_60 (fun u => wpY_init (fun v => i_Rel 0 u v)) 0 m (nI i) s (fun _ => 0) (fun _ => 0) (fun _ => 0) (fun _ => 0) (fun _ => 0)) vw_st0 ?_ ?_
  · intro m i hlt ih
    have hcl : (nI i).toNatClampNeg = i := nI_clamp (by omega)
    refine br_f (nI_ge (b := 8) hlt (by decide)) ⟨vp_in_nI hlt (by decide), ?_⟩
    rw [hcl]
    exact nm_r (e' := vw_st0 (i + 1)) rfl (nm_r (nI_1 i) ih)
  · intro m
    refine br_t (by decide) ?_
    refine ⟨8 + 1, ?_⟩
    refine vw_acc 8 (fun m i s => wY_init_47 (fun v => i_Rel 0 (0, vw_st0 8, (fun _ => 0), (fun _ => 0), (fun _ => 0), (fun _ => 0), (fun _ => 0)) v) 0 m (nI i) s (fun _ => 0) (fun _ => 0) (fun _ => 0) (fun _ => 0)) vw_st0 ?_ ?_
    · intro m i hlt ih
      have hcl : (nI i).toNatClampNeg = i := nI_clamp (by omega)
      refine br_f (nI_ge (b := 8) hlt (by decide)) ⟨vp_in_nI hlt (by decide), ?_⟩
      rw [hcl]
      exact nm_r (e' := vw_st0 (i + 1)) rfl (nm_r (nI_1 i) ih)
    · intro m
      refine br_t (by decide) ?_
      refine ⟨0, vw_st0 8, (fun _ => 0), (fun _ => 0), (fun _ => 0), (fun _ => 0), (fun _ => 0), (fun _ => 0), rfl, rfl, by omega, fun i hi => absurd hi (by omega), ?_⟩
      intro x _
      refine ⟨fun _ => ?_, fun _ => rfl⟩
      rintro ⟨i, j, hi, _⟩
      omega
/-- stake -/
theorem vw_wsX (post : Int32 → Prop) (p : Int32) : ∃ r : Int32, (post r → wpX_withinStakes post p) ∧ (∀ A B C : Prop, (r = p → A) → (r = 100 → B) → (r = 0 → C) → ((0 ≤ p → ((p ≤ 100 → A) ∧ (¬ p ≤ 100 → B))) ∧ (¬ 0 ≤ p → C))) := by
  by_cases h0 : 0 ≤ p
  · by_cases h1 : p ≤ 100
    · exact ⟨p, fun hp => br_t h0 (br_t h1 hp), fun A B C a b c => br_t h0 (br_t h1 (a rfl))⟩
    · exact ⟨100, fun hp => br_t h0 (br_f h1 hp), fun A B C a b c => br_t h0 (br_f h1 (b rfl))⟩
  · exact ⟨0, fun hp => br_f h0 hp, fun A B C a b c => br_f h0 (c rfl)⟩
theorem i_vc_stake {k : Nat} {u : SX} {v : SY} (I : i_Rel k u v) (hk : k + 4 ≤ 2048) (v1 : Int32) (v2 : Int32) : wpX_stake (fun r u' => wpY_stake (fun r' v' => r' = r ∧ i_Rel (k + 4) u' v') v v1 v2) u v1 v2 := by
  obtain ⟨n, st, ofs, wh, so, ta, mk, ju, rfl, rfl, hn, ok, hof⟩ := I
  unfold wpX_stake
  dsimp only
  rcases vw_val v1 with ⟨j, hj, rfl, hX, hY⟩ | ⟨hX, hY⟩
  · have hin : vp_in (nI j) 8 := vp_in_nI hj (by decide)
    refine hX _ (br_f vw_10 ⟨hin, nm_e ?_⟩)
    obtain ⟨r, h1, h2⟩ := vw_wsX (fun r_5 => (vp_in (nI j) 8 ∧ ∀ a_stakes_7 : Nat → Int32, a_stakes_7 = upd st (nI j).toNatClampNeg r_5 → wpY_stake (fun r' v' => r' = st (nI j).toNatClampNeg ∧ i_Rel (k + 4) (nI n, a_stakes_7, ofs, wh, so, ta, mk) v') (nI n, st, wh, so, ta, ju) (nI j) v2)) v2
    refine h1 ⟨hin, nm_e ?_⟩
    unfold wpY_stake
    dsimp only
    have fin : ∀ a, a = upd st (nI j).toNatClampNeg r → i_Rel (k + 4) (nI n, upd st (nI j).toNatClampNeg r, ofs, wh, so, ta, mk) (nI n, a, wh, so, ta, ju) := by
      intro a ha
      rw [ha]
      exact ⟨n, _, ofs, wh, so, ta, mk, ju, rfl, rfl, hn, ok, hof⟩
    refine hY _ (br_t rfl ⟨hin, nm_e ?_⟩)
    refine h2 _ _ _ ?_ ?_ ?_
    · intro e
      exact ⟨hin, fun a ha => ⟨rfl, fin a (by rw [e]; exact ha)⟩⟩
    · intro e
      exact ⟨hin, fun a ha => ⟨rfl, fin a (by rw [e]; exact ha)⟩⟩
    · intro e
      exact ⟨hin, fun a ha => ⟨rfl, fin a (by rw [e]; exact ha)⟩⟩
  · refine hX _ (br_t rfl ?_)
    unfold wpY_stake
    dsimp only
    exact hY _ (br_f vw_10 ⟨rfl, n, st, ofs, wh, so, ta, mk, ju, rfl, rfl, hn, ok, hof⟩)
/-- offender, offended -/
theorem vw_surY (post : Int32 → Prop) (p0 p1 p2 p3 : Int32) (h1 : vw_sur p0 p1 p2 p3 → post 1) (h0 : ¬ vw_sur p0 p1 p2 p3 → post 0) : wpY_surrounds post p0 p1 p2 p3 :=
  ⟨vw_4, vw_4, br_c (fun z => h0 fun y => y.1 z) fun z => ⟨vw_4, vw_4, br_c (fun z' => h0 fun y => y.2 z') fun z' => h1 ⟨z, z'⟩⟩⟩
theorem vw_ofinY (post : Int32 → Prop) (J : Int32 → Prop) (n : Nat) (st wh so ta ju : Nat → Int32) (x : Int32) (i : Nat) (hn : n ≤ 64) (hi : i < n) (h1 : (∃ j, j < n ∧ i ≠ j ∧ wh i = x ∧ wh j = x ∧ vw_bad2 so ta i j) → post 1) (h0 : (¬ ∃ j, j < n ∧ i ≠ j ∧ wh i = x ∧ wh j = x ∧ vw_bad2 so ta i j) → J (nI (i + 1))) : ∃ m, wY_offender_21 post J x (nI i) (nI n) st wh so ta ju m 0 := by
  refine ⟨n + 1, ?_⟩
  refine vw_ex n (fun m j => wY_offender_21 post J x (nI i) (nI n) st wh so ta ju m (nI j)) (fun j => i ≠ j ∧ wh i = x ∧ wh j = x ∧ vw_bad2 so ta i j) (post 1) (J (nI (i + 1))) ?_ ?_ h1 h0
  · intro m j hlt hA hB
    have hcli : (nI i).toNatClampNeg = i := nI_clamp (by omega)
    have hclj : (nI j).toNatClampNeg = j := nI_clamp (by omega)
    have hini : vp_in (nI i) 64 := vp_in_nI (by omega) (by decide)
    have hinj : vp_in (nI j) 64 := vp_in_nI (by omega) (by decide)
    refine br_f (nI_ge hlt (by omega)) ?_
    by_cases e : i = j
    · exact br_t (by rw [e]) (br_t rfl (nm_r (nI_1 j) (hB fun q => q.1 e)))
    · refine br_f (fun z => e ((nI_eq (by omega) (by omega)).mp z)) ⟨hini, ?_⟩
      rw [hcli]
      by_cases g1 : wh i = x
      · refine br_t g1 ⟨hinj, ?_⟩
        rw [hclj]
        by_cases g2 : wh j = x
        · refine br_t g2 (br_f vw_10 ⟨hini, vw_4, hinj, vw_4, ?_⟩)
          rw [hcli, hclj]
          by_cases g3 : ta i / 4 = ta j / 4
          · exact br_t g3 (hA ⟨e, g1, g2, Or.inl g3⟩)
          · refine br_f g3 ⟨hini, hini, hinj, hinj, ?_⟩
            refine vw_surY _ _ _ _ _ ?_ ?_
            · intro g4
              exact br_f vw_10 (hA ⟨e, g1, g2, Or.inr g4⟩)
            · intro g4
              exact br_t rfl (nm_r (nI_1 j) (hB fun q => q.2.2.2.elim g3 g4))
        · exact br_f g2 (br_t rfl (nm_r (nI_1 j) (hB fun q => g2 q.2.2.1)))
      · exact br_f g1 (br_t rfl (nm_r (nI_1 j) (hB fun q => g1 q.2.1)))
  · intro m hb
    exact br_t (Int32.le_refl _) (nm_r (nI_1 i) hb)
theorem vw_offY (post : Int32 → Prop) (n : Nat) (st wh so ta ju : Nat → Int32) (x : Nat) (hx : x < 8) (hn : n ≤ 64) (h1 : vw_Off n wh so ta (nI x) → post 1) (h0 : ¬ vw_Off n wh so ta (nI x) → post 0) : wpY_offender post (nI n, st, wh, so, ta, ju) (nI x) := by
  unfold wpY_offender
  dsimp only
  have h7 : nI x ≤ 7 := nI_le (b := 7) (by omega) (by decide)
  refine br_f (nI_pos (by omega)) (br_t h7 (br_t rfl ⟨n + 1, ?_⟩))
  refine vw_ex n (fun m i => wY_offender_11 post (nI x) (nI n) st wh so ta ju m (nI i)) (fun i => ∃ j, j < n ∧ i ≠ j ∧ wh i = nI x ∧ wh j = nI x ∧ vw_bad2 so ta i j) (post 1) (post 0) ?_ ?_ ?_ ?_
  · intro m i hlt hA hB
    refine br_f (nI_ge hlt (by omega)) ?_
    exact vw_ofinY post _ n st wh so ta ju (nI x) i hn hlt hA hB
  · intro m hb
    exact br_t (Int32.le_refl _) hb
  · rintro ⟨i, hi, j, hj, q⟩
    exact h1 ⟨i, j, hi, hj, q⟩
  · intro z
    exact h0 fun ⟨i, j, hi, hj, q⟩ => z ⟨i, hi, j, hj, q⟩
theorem i_vc_offender {k : Nat} {u : SX} {v : SY} (I : i_Rel k u v) (hk : k + 4 ≤ 2048) (v1 : Int32) : wpX_offender (fun r => wpY_offender (fun r' => r' = r ∧ i_Rel (k + 4) u v) v v1) u v1 := by
  have I' : i_Rel (k + 4) u v := I
  obtain ⟨n, st, ofs, wh, so, ta, mk, ju, rfl, rfl, hn, ok, hof⟩ := I
  unfold wpX_offender
  dsimp only
  rcases vw_val v1 with ⟨j, hj, rfl, hX, hY⟩ | ⟨hX, hY⟩
  · have hcl : (nI j).toNatClampNeg = j := nI_clamp (by omega)
    refine hX _ (br_f vw_10 ⟨vp_in_nI hj (by decide), ?_⟩)
    rw [hcl]
    by_cases g : ofs j = 0
    · refine br_t g ?_
      exact vw_offY _ n st wh so ta ju j hj hn (fun z => absurd z ((hof j hj).mp g)) fun _ => ⟨rfl, I'⟩
    · refine br_f g ?_
      exact vw_offY _ n st wh so ta ju j hj hn (fun _ => ⟨rfl, I'⟩) fun z => absurd ((hof j hj).mpr z) g
  · refine hX _ (br_t rfl ?_)
    unfold wpY_offender
    dsimp only
    exact hY _ (br_f vw_10 ⟨rfl, I'⟩)
def vw_od (ofs st : Nat → Int32) : Nat → Int32
  | 0 => 0
  | n + 1 => if ofs n = 0 then vw_od ofs st n else vw_od ofs st n + st n
theorem i_vc_offended {k : Nat} {u : SX} {v : SY} (I : i_Rel k u v) (hk : k + 4 ≤ 2048) : wpX_offended (fun r => wpY_offended (fun r' => r' = r ∧ i_Rel (k + 4) u v) v) u := by
  have I' : i_Rel (k + 4) u v := I
  obtain ⟨n, st, ofs, wh, so, ta, mk, ju, rfl, rfl, hn, ok, hof⟩ := I
  unfold wpX_offended
  dsimp only
  refine ⟨8 + 1, ?_⟩
  refine vw_acc 8 (fun m i s => wX_offended_4 (fun r => wpY_offended (fun r' => r' = r ∧ i_Rel (k + 4) (nI n, st, ofs, wh, so, ta, mk) (nI n, st, wh, so, ta, ju)) (nI n, st, wh, so, ta, ju)) (nI n) st ofs wh so ta mk m s (nI i)) (vw_od ofs st) ?_ ?_
  · intro m i hlt ih
    have hcl : (nI i).toNatClampNeg = i := nI_clamp (by omega)
    have hin : vp_in (nI i) 8 := vp_in_nI hlt (by decide)
    refine br_f (nI_ge (b := 8) hlt (by decide)) ⟨hin, ?_⟩
    rw [hcl]
    by_cases g : ofs i = 0
    · have es : vw_od ofs st (i + 1) = vw_od ofs st i := if_pos g
      rw [es] at ih
      exact br_t g (nm_r (nI_1 i) ih)
    · have es : vw_od ofs st (i + 1) = vw_od ofs st i + st i := if_neg g
      exact br_f g ⟨hin, nm_r es.symm (nm_r (nI_1 i) ih)⟩
  · intro m
    refine br_t (by decide) ?_
    unfold wpY_offended
    dsimp only
    refine ⟨8 + 1, ?_⟩
    refine vw_acc 8 (fun m i s => wY_offended_4 (fun r' => r' = vw_od ofs st 8 ∧ i_Rel (k + 4) (nI n, st, ofs, wh, so, ta, mk) (nI n, st, wh, so, ta, ju)) (nI n) st wh so ta ju m s (nI i)) (vw_od ofs st) ?_ ?_
    · intro m i hlt ih
      have hcl : (nI i).toNatClampNeg = i := nI_clamp (by omega)
      have hin : vp_in (nI i) 8 := vp_in_nI hlt (by decide)
      refine br_f (nI_ge (b := 8) hlt (by decide)) ?_
      refine vw_offY _ n st wh so ta ju i hlt hn ?_ ?_
      · intro g
        have g' : ¬ ofs i = 0 := fun z => (hof i hlt).mp z g
        have es : vw_od ofs st i + 1 * st (nI i).toNatClampNeg = vw_od ofs st (i + 1) := by
          rw [hcl, Int32.one_mul]; exact (if_neg g').symm
        exact ⟨hin, nm_r es (nm_r (nI_1 i) ih)⟩
      · intro g
        have g' : ofs i = 0 := (hof i hlt).mpr g
        have es : vw_od ofs st i + 0 * st (nI i).toNatClampNeg = vw_od ofs st (i + 1) := by
          rw [Int32.zero_mul, Int32.add_zero]; exact (if_pos g').symm
        exact ⟨hin, nm_r es (nm_r (nI_1 i) ih)⟩
    · intro m
      exact br_t (by decide) ⟨rfl, I'⟩
/-- support, votes -/
theorem i_vc_support {k : Nat} {u : SX} {v : SY} (I : i_Rel k u v) (hk : k + 4 ≤ 2048) (v1 : Int32) (v2 : Int32) : wpX_support (fun r => wpY_support (fun r' => r' = r ∧ i_Rel (k + 4) u v) v v1 v2) u v1 v2 := by
  have I' : i_Rel (k + 4) u v := I
  obtain ⟨n, st, ofs, wh, so, ta, mk, ju, rfl, rfl, hn, ok, hof⟩ := I
  unfold wpX_support
  dsimp only
  refine vw_supX _ n st ofs wh so ta mk v1 v2 hn ok ?_
  exact vw_supY _ n st wh so ta ju v1 v2 hn ok ⟨rfl, I'⟩
def vw_vs (wh : Nat → Int32) (x : Int32) : Nat → Int32
  | 0 => 0
  | n + 1 => if wh n = x then vw_vs wh x n + 1 else vw_vs wh x n
theorem i_vc_votes {k : Nat} {u : SX} {v : SY} (I : i_Rel k u v) (hk : k + 4 ≤ 2048) (v1 : Int32) : wpX_votes (fun r => wpY_votes (fun r' => r' = r ∧ i_Rel (k + 4) u v) v v1) u v1 := by
  have I' : i_Rel (k + 4) u v := I
  obtain ⟨n, st, ofs, wh, so, ta, mk, ju, rfl, rfl, hn, ok, hof⟩ := I
  unfold wpX_votes
  dsimp only
  rcases vw_val v1 with ⟨j, hj, rfl, hX, hY⟩ | ⟨hX, hY⟩
  · refine hX _ (br_f vw_10 ⟨n + 1, ?_⟩)
    refine vw_acc n (fun m i s => wX_votes_13 (fun r => wpY_votes (fun r' => r' = r ∧ i_Rel (k + 4) (nI n, st, ofs, wh, so, ta, mk) (nI n, st, wh, so, ta, ju)) (nI n, st, wh, so, ta, ju) (nI j)) (nI j) (nI n) st ofs wh so ta mk m s (nI i)) (vw_vs wh (nI j)) ?_ ?_
    · intro m i hlt ih
      have hcl : (nI i).toNatClampNeg = i := nI_clamp (by omega)
      refine br_f (nI_ge hlt (by omega)) ⟨vp_in_nI (by omega) (by decide), ?_⟩
      rw [hcl]
      by_cases g : wh i = nI j
      · have es : vw_vs wh (nI j) (i + 1) = vw_vs wh (nI j) i + 1 := if_pos g
        exact br_t g (nm_r es.symm (nm_r (nI_1 i) ih))
      · have es : vw_vs wh (nI j) (i + 1) = vw_vs wh (nI j) i := if_neg g
        rw [es] at ih
        exact br_f g (nm_r (nI_1 i) ih)
    · intro m
      refine br_t (Int32.le_refl _) ?_
      unfold wpY_votes
      dsimp only
      refine hY _ (br_t rfl ⟨n + 1, ?_⟩)
      refine vw_acc n (fun m i s => wY_votes_13 (fun r' => r' = vw_vs wh (nI j) n ∧ i_Rel (k + 4) (nI n, st, ofs, wh, so, ta, mk) (nI n, st, wh, so, ta, ju)) (nI j) (nI n) st wh so ta ju m s (nI i)) (vw_vs wh (nI j)) ?_ ?_
      · intro m i hlt ih
        have hcl : (nI i).toNatClampNeg = i := nI_clamp (by omega)
        refine br_f (nI_ge hlt (by omega)) ⟨vp_in_nI (by omega) (by decide), ?_⟩
        rw [hcl]
        by_cases g : wh i = nI j
        · have es : vw_vs wh (nI j) (i + 1) = vw_vs wh (nI j) i + 1 := if_pos g
          exact br_t g (nm_r es.symm (nm_r (nI_1 i) ih))
        · have es : vw_vs wh (nI j) (i + 1) = vw_vs wh (nI j) i := if_neg g
          rw [es] at ih
          exact br_f g (nm_r (nI_1 i) ih)
      · intro m
        exact br_t (Int32.le_refl _) ⟨rfl, I'⟩
  · refine hX _ (br_t rfl ?_)
    unfold wpY_votes
    dsimp only
    exact hY _ (br_f vw_10 ⟨rfl, I'⟩)
end
section
theorem i_vc_justified {k : Nat} {u : SX} {v : SY} (I : i_Rel k u v) (hk : k + 4 ≤ 2048) (v1 : Int32) : wpX_justified (fun r u' => wpY_justified (fun r' v' => r' = r ∧ i_Rel (k + 4) u' v') v v1) u v1 := by
  obtain ⟨n, st, ofs, wh, so, ta, mk, ju, rfl, rfl, hn, ok, hof⟩ := I
  have R : ∀ g h : Nat → Int32, i_Rel (k + 4) (nI n, st, ofs, wh, so, ta, g) (nI n, st, wh, so, ta, h) := fun g h => ⟨n, st, ofs, wh, so, ta, g, h, rfl, rfl, hn, ok, hof⟩
  unfold wpX_justified
  dsimp only
  rcases vw_ck v1 with ⟨j, hj, rfl, hX, hY⟩ | ⟨hX, hY⟩
  · have hcl : (nI j).toNatClampNeg = j := nI_clamp (by omega)
    have hin : vp_in (nI j) 128 := vp_in_nI hj (by decide)
    refine hX _ (br_f vw_10 ?_)
    refine vw_mjX _ n st ofs wh so ta mk hn ok ?_
    intro g hg
    refine ⟨hin, ?_⟩
    rw [hcl]
    have walk : ∀ r : Int32, (r = if g j = 0 then 0 else 1) → wpY_justified (fun r' v' => r' = r ∧ i_Rel (k + 4) (nI n, st, ofs, wh, so, ta, g) v') (nI n, st, wh, so, ta, ju) (nI j) := by
      intro r hr
      unfold wpY_justified
      dsimp only
      refine hY _ (br_t rfl ?_)
      refine vw_mjY _ n st wh so ta ju hn ok ?_
      intro h hh
      have e := vw_uniq ok hg hh j hj
      refine ⟨hin, ?_⟩
      rw [hcl]
      by_cases z : g j = 0
      · exact br_t (e.mp z) ⟨by rw [hr, if_pos z], R g h⟩
      · exact br_f (fun y => z (e.mpr y)) ⟨by rw [hr, if_neg z], R g h⟩
    by_cases z : g j = 0
    · exact br_t z (walk 0 (if_pos z).symm)
    · exact br_f z (walk 1 (if_neg z).symm)
  · refine hX _ (br_t rfl ?_)
    unfold wpY_justified
    dsimp only
    exact hY _ (br_f vw_10 ⟨rfl, R mk ju⟩)
/-- isFinal -/
theorem vw_hnX (post : Int32 → Prop) (n : Nat) (st ofs wh so ta mk : Nat → Int32) (x : Int32) (hn : n ≤ 64) (ok : vw_ok n wh so ta) (h1 : (∃ i, i < n ∧ so i = x ∧ ta i / 4 = x / 4 + 1 ∧ vw_S n st wh so ta x (ta i)) → post 1) (h0 : (¬ ∃ i, i < n ∧ so i = x ∧ ta i / 4 = x / 4 + 1 ∧ vw_S n st wh so ta x (ta i)) → post 0) : wpX_hasSupportedNext post (nI n, st, ofs, wh, so, ta, mk) x := by
  unfold wpX_hasSupportedNext
  dsimp only
  refine ⟨vw_4, nm_e ⟨n + 1, ?_⟩⟩
  refine vw_ex n (fun m i => wX_hasSupportedNext_9 post x (x / 4 + 1) (nI n) st ofs wh so ta mk m (nI i)) (fun i => so i = x ∧ ta i / 4 = x / 4 + 1 ∧ vw_S n st wh so ta x (ta i)) (post 1) (post 0) ?_ ?_ h1 h0
  · intro m i hlt hA hB
    have hcl : (nI i).toNatClampNeg = i := nI_clamp (by omega)
    have hin : vp_in (nI i) 64 := vp_in_nI (by omega) (by decide)
    refine br_f (nI_ge hlt (by omega)) ⟨hin, ?_⟩
    rw [hcl]
    by_cases g1 : so i = x
    · refine br_t g1 ⟨hin, vw_4, ?_⟩
      by_cases g2 : ta i / 4 = x / 4 + 1
      · refine br_t g2 ⟨hin, ?_⟩
        refine vw_suX _ n st ofs wh so ta mk x (ta i) hn ok ?_ ?_
        · intro g3
          exact br_f vw_10 (hA ⟨g1, g2, g3⟩)
        · intro g3
          exact br_t rfl (nm_r (nI_1 i) (hB fun q => g3 q.2.2))
      · exact br_f g2 (nm_r (nI_1 i) (hB fun q => g2 q.2.1))
    · exact br_f g1 (nm_r (nI_1 i) (hB fun q => g1 q.1))
  · intro m hb
    exact br_t (Int32.le_refl _) hb
theorem vw_finY (post : Int32 → SY → Prop) (n : Nat) (st wh so ta h : Nat → Int32) (j : Nat) (hj : j < 128) (hn : n ≤ 64) (ok : vw_ok n wh so ta) (h1 : (∃ i, i < n ∧ so i = nI j ∧ ta i / 4 = nI j / 4 + 1 ∧ ¬ h j = 0 ∧ vw_S n st wh so ta (nI j) (ta i)) → post 1 (nI n, st, wh, so, ta, h)) (h0 : (¬ ∃ i, i < n ∧ so i = nI j ∧ ta i / 4 = nI j / 4 + 1 ∧ ¬ h j = 0 ∧ vw_S n st wh so ta (nI j) (ta i)) → post 0 (nI n, st, wh, so, ta, h)) : ∃ m, wY_isFinal_15 post (nI j) (nI n) st wh so ta h m 0 := by
  refine ⟨n + 1, ?_⟩
  refine vw_ex n (fun m i => wY_isFinal_15 post (nI j) (nI n) st wh so ta h m (nI i)) (fun i => so i = nI j ∧ ta i / 4 = nI j / 4 + 1 ∧ ¬ h j = 0 ∧ vw_S n st wh so ta (nI j) (ta i)) (post 1 (nI n, st, wh, so, ta, h)) (post 0 (nI n, st, wh, so, ta, h)) ?_ ?_ h1 h0
  · intro m i hlt hA hB
    have hcl : (nI i).toNatClampNeg = i := nI_clamp (by omega)
    have hclj : (nI j).toNatClampNeg = j := nI_clamp (by omega)
    have hin : vp_in (nI i) 64 := vp_in_nI (by omega) (by decide)
    refine br_f (nI_ge hlt (by omega)) ⟨hin, ?_⟩
    rw [hcl]
    by_cases g1 : so i = nI j
    · refine br_t g1 ⟨hin, vw_4, vw_4, ?_⟩
      by_cases g2 : ta i / 4 = nI j / 4 + 1
      · refine br_t g2 (br_f vw_10 ⟨vp_in_nI hj (by decide), ?_⟩)
        rw [hclj, hcl]
        by_cases g3 : h j = 0
        · exact br_t g3 (nm_r (nI_1 i) (hB fun q => q.2.2.1 g3))
        · refine br_f g3 ⟨hin, ?_⟩
          refine vw_suY _ n st wh so ta h (nI j) (ta i) hn ok ?_ ?_
          · intro g4
            exact br_f vw_10 (hA ⟨g1, g2, g3, g4⟩)
          · intro g4
            exact br_t rfl (nm_r (nI_1 i) (hB fun q => g4 q.2.2.2))
      · exact br_f g2 (br_t rfl (nm_r (nI_1 i) (hB fun q => g2 q.2.1)))
    · exact br_f g1 (br_t rfl (nm_r (nI_1 i) (hB fun q => g1 q.1)))
  · intro m hb
    exact br_t (Int32.le_refl _) hb
theorem i_vc_isFinal {k : Nat} {u : SX} {v : SY} (I : i_Rel k u v) (hk : k + 4 ≤ 2048) (v1 : Int32) : wpX_isFinal (fun r u' => wpY_isFinal (fun r' v' => r' = r ∧ i_Rel (k + 4) u' v') v v1) u v1 := by
  obtain ⟨n, st, ofs, wh, so, ta, mk, ju, rfl, rfl, hn, ok, hof⟩ := I
  have R : ∀ g h : Nat → Int32, i_Rel (k + 4) (nI n, st, ofs, wh, so, ta, g) (nI n, st, wh, so, ta, h) := fun g h => ⟨n, st, ofs, wh, so, ta, g, h, rfl, rfl, hn, ok, hof⟩
  unfold wpX_isFinal
  dsimp only
  rcases vw_ck v1 with ⟨j, hj, rfl, hX, hY⟩ | ⟨hX, hY⟩
  · have hcl : (nI j).toNatClampNeg = j := nI_clamp (by omega)
    have hin : vp_in (nI j) 128 := vp_in_nI hj (by decide)
    refine hX _ (br_f vw_10 ?_)
    refine vw_mjX _ n st ofs wh so ta mk hn ok ?_
    intro g hg
    refine ⟨hin, ?_⟩
    rw [hcl]
    have walk : ∀ r : Int32, ((∃ i, i < n ∧ so i = nI j ∧ ta i / 4 = nI j / 4 + 1 ∧ ¬ g j = 0 ∧ vw_S n st wh so ta (nI j) (ta i)) → r = 1) → ((¬ ∃ i, i < n ∧ so i = nI j ∧ ta i / 4 = nI j / 4 + 1 ∧ ¬ g j = 0 ∧ vw_S n st wh so ta (nI j) (ta i)) → r = 0) → wpY_isFinal (fun r' v' => r' = r ∧ i_Rel (k + 4) (nI n, st, ofs, wh, so, ta, g) v') (nI n, st, wh, so, ta, ju) (nI j) := by
      intro r r1 r0
      unfold wpY_isFinal
      dsimp only
      refine hY _ (br_t rfl ?_)
      refine vw_mjY _ n st wh so ta ju hn ok ?_
      intro h hh
      have e := vw_uniq ok hg hh j hj
      refine vw_finY _ n st wh so ta h j hj hn ok ?_ ?_
      · rintro ⟨i, a1, a2, a3, a4, a5⟩
        exact ⟨(r1 ⟨i, a1, a2, a3, fun z => a4 (e.mp z), a5⟩).symm, R g h⟩
      · intro q
        exact ⟨(r0 fun ⟨i, a1, a2, a3, a4, a5⟩ => q ⟨i, a1, a2, a3, fun z => a4 (e.mpr z), a5⟩).symm, R g h⟩
    by_cases z : g j = 0
    · exact br_t z (walk 0 (fun ⟨i, a1, a2, a3, a4, a5⟩ => absurd z a4) fun _ => rfl)
    · refine br_f z ?_
      refine vw_hnX _ n st ofs wh so ta g (nI j) hn ok ?_ ?_
      · rintro ⟨i, a1, a2, a3, a4⟩
        exact br_f vw_10 (walk 1 (fun _ => rfl) fun q => absurd ⟨i, a1, a2, a3, z, a4⟩ q)
      · intro q
        exact br_t rfl (walk 0 (fun ⟨i, a1, a2, a3, a4, a5⟩ => absurd ⟨i, a1, a2, a3, a5⟩ q) fun _ => rfl)
  · refine hX _ (br_t rfl ?_)
    unfold wpY_isFinal
    dsimp only
    exact hY _ (br_f vw_10 ⟨rfl, R mk ju⟩)
/-- highest -/
def vw_hi (g : Nat → Int32) : Nat → Int32
  | 0 => 0
  | n + 1 => if g n = 0 then vw_hi g n else nI n
theorem vw_hiE {g h : Nat → Int32} : ∀ n, (∀ c, c < n → (g c = 0 ↔ h c = 0)) → vw_hi g n = vw_hi h n := by
  intro n
  induction n with
  | zero => intro _; rfl
  | succ n ih =>
    intro e
    show (if g n = 0 then vw_hi g n else nI n) = if h n = 0 then vw_hi h n else nI n
    rw [ih fun c hc => e c (by omega)]
    by_cases z : g n = 0
    · rw [if_pos z, if_pos ((e n (by omega)).mp z)]
    · rw [if_neg z, if_neg fun y => z ((e n (by omega)).mpr y)]
theorem vw_hiX (post : Int32 → SX → Prop) (n : Nat) (st ofs wh so ta g : Nat → Int32) (hp : post (vw_hi g 128) (nI n, st, ofs, wh, so, ta, g)) : ∃ m, wX_highest_8 post (nI n) st ofs wh so ta g m 0 0 := by
  refine ⟨128 + 1, ?_⟩
  refine vw_acc 128 (fun m i s => wX_highest_8 post (nI n) st ofs wh so ta g m s (nI i)) (vw_hi g) ?_ ?_
  · intro m i hlt ih
    have hcl : (nI i).toNatClampNeg = i := nI_clamp (by omega)
    refine br_f (nI_ge (b := 128) hlt (by decide)) ⟨vp_in_nI hlt (by decide), ?_⟩
    rw [hcl]
    by_cases z : g i = 0
    · have es : vw_hi g (i + 1) = vw_hi g i := if_pos z
      rw [es] at ih
      exact br_t z (nm_r (nI_1 i) ih)
    · have es : vw_hi g (i + 1) = nI i := if_neg z
      rw [es] at ih
      exact br_f z (nm_r (nI_1 i) ih)
  · intro m
    exact br_t (by decide) hp
theorem vw_hiY (post : Int32 → SY → Prop) (n : Nat) (st wh so ta g : Nat → Int32) (hp : post (vw_hi g 128) (nI n, st, wh, so, ta, g)) : ∃ m, wY_highest_8 post (nI n) st wh so ta g m 0 0 := by
  refine ⟨128 + 1, ?_⟩
  refine vw_acc 128 (fun m i s => wY_highest_8 post (nI n) st wh so ta g m s (nI i)) (vw_hi g) ?_ ?_
  · intro m i hlt ih
    have hcl : (nI i).toNatClampNeg = i := nI_clamp (by omega)
    refine br_f (nI_ge (b := 128) hlt (by decide)) ⟨vp_in_nI hlt (by decide), ?_⟩
    rw [hcl]
    by_cases z : g i = 0
    · have es : vw_hi g (i + 1) = vw_hi g i := if_pos z
      rw [es] at ih
      exact br_t z (nm_r (nI_1 i) ih)
    · have es : vw_hi g (i + 1) = nI i := if_neg z
      rw [es] at ih
      exact br_f z (nm_r (nI_1 i) ih)
  · intro m
    exact br_t (by decide) hp
theorem i_vc_highest {k : Nat} {u : SX} {v : SY} (I : i_Rel k u v) (hk : k + 4 ≤ 2048) : wpX_highest (fun r u' => wpY_highest (fun r' v' => r' = r ∧ i_Rel (k + 4) u' v') v) u := by
  obtain ⟨n, st, ofs, wh, so, ta, mk, ju, rfl, rfl, hn, ok, hof⟩ := I
  have R : ∀ g h : Nat → Int32, i_Rel (k + 4) (nI n, st, ofs, wh, so, ta, g) (nI n, st, wh, so, ta, h) := fun g h => ⟨n, st, ofs, wh, so, ta, g, h, rfl, rfl, hn, ok, hof⟩
  unfold wpX_highest
  dsimp only
  refine vw_mjX _ n st ofs wh so ta mk hn ok ?_
  intro g hg
  refine vw_hiX _ n st ofs wh so ta g ?_
  unfold wpY_highest
  dsimp only
  refine vw_mjY _ n st wh so ta ju hn ok ?_
  intro h hh
  refine vw_hiY _ n st wh so ta h ?_
  exact ⟨(vw_hiE 128 (vw_uniq ok hg hh)).symm, R g h⟩
/-- justifiedIn -/
def vw_ji (g : Nat → Int32) (e : Nat) : Nat → Int32
  | 0 => 0
  | n + 1 => if g (e * 4 + n) = 0 then vw_ji g e n else vw_ji g e n + 1
theorem vw_jiE {g h : Nat → Int32} (e : Nat) (he : e < 32) (hu : ∀ c, c < 128 → (g c = 0 ↔ h c = 0)) : ∀ n, n ≤ 3 → vw_ji g e n = vw_ji h e n := by
  intro n
  induction n with
  | zero => intro _; rfl
  | succ n ih =>
    intro hn
    show (if g (e * 4 + n) = 0 then vw_ji g e n else vw_ji g e n + 1) = if h (e * 4 + n) = 0 then vw_ji h e n else vw_ji h e n + 1
    rw [ih (by omega)]
    have q := hu (e * 4 + n) (by omega)
    by_cases z : g (e * 4 + n) = 0
    · rw [if_pos z, if_pos (q.mp z)]
    · rw [if_neg z, if_neg fun y => z (q.mpr y)]
theorem vw_ixX (e i : Nat) : nI e * 4 + nI i = nI (e * 4 + i) := by
  rw [show (4 : Int32) = nI 4 from rfl, pk_mul, nI_add]
theorem vw_ixY (e i : Nat) : 4 * nI e + nI i = nI (e * 4 + i) := by
  rw [show (4 : Int32) = nI 4 from rfl, pk_mul, nI_add, Nat.mul_comm]
theorem vw_jiX (post : Int32 → SX → Prop) (n : Nat) (st ofs wh so ta g : Nat → Int32) (e : Nat) (he : e < 32) (hp : post (vw_ji g e 3) (nI n, st, ofs, wh, so, ta, g)) : ∃ m, wX_justifiedIn_20 post (nI e) (nI n) st ofs wh so ta g m 0 0 := by
  refine ⟨3 + 1, ?_⟩
  refine vw_acc 3 (fun m i s => wX_justifiedIn_20 post (nI e) (nI n) st ofs wh so ta g m s (nI i)) (vw_ji g e) ?_ ?_
  · intro m i hlt ih
    have hcl : (nI (e * 4 + i)).toNatClampNeg = e * 4 + i := nI_clamp (by omega)
    refine br_f (nI_ge (b := 3) hlt (by decide)) ?_
    rw [vw_ixX, hcl]
    refine ⟨vp_in_nI (by omega) (by decide), ?_⟩
    by_cases z : g (e * 4 + i) = 0
    · have es : vw_ji g e (i + 1) = vw_ji g e i := if_pos z
      rw [es] at ih
      exact br_t z (nm_r (nI_1 i) ih)
    · have es : vw_ji g e (i + 1) = vw_ji g e i + 1 := if_neg z
      exact br_f z (nm_r es.symm (nm_r (nI_1 i) ih))
  · intro m
    exact br_t (by decide) hp
theorem vw_jiY (post : Int32 → SY → Prop) (n : Nat) (st wh so ta g : Nat → Int32) (e : Nat) (he : e < 32) (hp : post (vw_ji g e 3) (nI n, st, wh, so, ta, g)) : ∃ m, wY_justifiedIn_20 post (nI e) (nI n) st wh so ta g m 0 0 := by
  refine ⟨3 + 1, ?_⟩
  refine vw_acc 3 (fun m i s => wY_justifiedIn_20 post (nI e) (nI n) st wh so ta g m s (nI i)) (vw_ji g e) ?_ ?_
  · intro m i hlt ih
    have hcl : (nI (e * 4 + i)).toNatClampNeg = e * 4 + i := nI_clamp (by omega)
    refine br_f (nI_ge (b := 3) hlt (by decide)) ?_
    rw [vw_ixY, hcl]
    refine ⟨vp_in_nI (by omega) (by decide), ?_⟩
    by_cases z : g (e * 4 + i) = 0
    · have es : vw_ji g e (i + 1) = vw_ji g e i := if_pos z
      rw [es] at ih
      exact br_t z (nm_r (nI_1 i) ih)
    · have es : vw_ji g e (i + 1) = vw_ji g e i + 1 := if_neg z
      exact br_f z (nm_r es.symm (nm_r (nI_1 i) ih))
  · intro m
    exact br_t (by decide) hp
theorem i_vc_justifiedIn {k : Nat} {u : SX} {v : SY} (I : i_Rel k u v) (hk : k + 4 ≤ 2048) (v1 : Int32) : wpX_justifiedIn (fun r u' => wpY_justifiedIn (fun r' v' => r' = r ∧ i_Rel (k + 4) u' v') v v1) u v1 := by
  obtain ⟨n, st, ofs, wh, so, ta, mk, ju, rfl, rfl, hn, ok, hof⟩ := I
  have R : ∀ g h : Nat → Int32, i_Rel (k + 4) (nI n, st, ofs, wh, so, ta, g) (nI n, st, wh, so, ta, h) := fun g h => ⟨n, st, ofs, wh, so, ta, g, h, rfl, rfl, hn, ok, hof⟩
  unfold wpX_justifiedIn
  dsimp only
  rcases pk_ix v1 (n := 32) (by decide) with h | h | ⟨e, he, rfl⟩
  · refine br_t h ?_
    unfold wpY_justifiedIn
    dsimp only
    exact br_t h ⟨rfl, R mk ju⟩
  · have hn' : ¬ v1 < 0 := vw_nneg (by decide) h
    have h31 : ¬ v1 ≤ 31 := fun z => absurd (Int32.le_trans h z) (by decide)
    refine br_f hn' (br_f (Int32.not_lt.mpr h) ?_)
    unfold wpY_justifiedIn
    dsimp only
    exact br_f hn' (br_f h31 ⟨rfl, R mk ju⟩)
  · have hn' : ¬ nI e < 0 := nI_pos (by omega)
    have h31 : nI e ≤ 31 := nI_le (b := 31) (by omega) (by decide)
    have h32 : nI e < 32 := nI_lt (b := 32) he (by decide)
    refine br_f hn' (br_t h32 ?_)
    refine vw_mjX _ n st ofs wh so ta mk hn ok ?_
    intro g hg
    refine vw_jiX _ n st ofs wh so ta g e he ?_
    unfold wpY_justifiedIn
    dsimp only
    refine br_f hn' (br_t h31 ?_)
    refine vw_mjY _ n st wh so ta ju hn ok ?_
    intro h hh
    refine vw_jiY _ n st wh so ta h e he ?_
    exact ⟨(vw_jiE e he (vw_uniq ok hg hh) 3 (Nat.le_refl _)).symm, R g h⟩
end
section
/-- the offences of a new vote against the held one at i, and their or -/
def vw_o (so ta : Nat → Int32) (s t : Int32) (i : Nat) : Int32 := if ta i / 4 = t / 4 then 1 else if vw_sur s t (so i) (ta i) then 2 else if vw_sur (so i) (ta i) s t then 4 else 0
def vw_ac (wh so ta : Nat → Int32) (x s t : Int32) : Nat → Int32
  | 0 => 0
  | n + 1 => if wh n = x then vw_ac wh so ta x s t n ||| vw_o so ta s t n else vw_ac wh so ta x s t n
def vw_hit (so ta : Nat → Int32) (s t : Int32) (i : Nat) : Prop := ta i / 4 = t / 4 ∨ vw_sur s t (so i) (ta i) ∨ vw_sur (so i) (ta i) s t
theorem vw_o0 (so ta : Nat → Int32) (s t : Int32) (i : Nat) : vw_o so ta s t i = 0 ↔ ¬ vw_hit so ta s t i := by
  unfold vw_o vw_hit
  by_cases h1 : ta i / 4 = t / 4
  · rw [if_pos h1]
    exact ⟨fun z => absurd z (by decide), fun z => absurd (Or.inl h1) z⟩
  · rw [if_neg h1]
    by_cases h2 : vw_sur s t (so i) (ta i)
    · rw [if_pos h2]
      exact ⟨fun z => absurd z (by decide), fun z => absurd (Or.inr (Or.inl h2)) z⟩
    · rw [if_neg h2]
      by_cases h3 : vw_sur (so i) (ta i) s t
      · rw [if_pos h3]
        exact ⟨fun z => absurd z (by decide), fun z => absurd (Or.inr (Or.inr h3)) z⟩
      · rw [if_neg h3]
        exact ⟨fun _ => fun z => z.elim h1 fun y => y.elim h2 h3, fun _ => rfl⟩
theorem vw_or0 (a b : Int32) : a ||| b = 0 ↔ a = 0 ∧ b = 0 := by
  constructor
  · intro h
    have e : a.toBitVec ||| b.toBitVec = 0#32 := by rw [← Int32.toBitVec_or, h]; rfl
    have e' := BitVec.or_eq_zero_iff.mp e
    exact ⟨Int32.toBitVec_inj.mp e'.1, Int32.toBitVec_inj.mp e'.2⟩
  · rintro ⟨rfl, rfl⟩
    decide
theorem vw_ac0 (wh so ta : Nat → Int32) (x s t : Int32) : ∀ n, vw_ac wh so ta x s t n = 0 ↔ ¬ ∃ i, i < n ∧ wh i = x ∧ vw_hit so ta s t i := by
  intro n
  induction n with
  | zero =>
    refine ⟨fun _ => ?_, fun _ => rfl⟩
    rintro ⟨i, hi, _⟩
    omega
  | succ n ih =>
    show (if wh n = x then vw_ac wh so ta x s t n ||| vw_o so ta s t n else vw_ac wh so ta x s t n) = 0 ↔ _
    by_cases h : wh n = x
    · rw [if_pos h, vw_or0, ih, vw_o0]
      constructor
      · rintro ⟨a, b⟩ ⟨i, hi, c, d⟩
        by_cases e : i = n
        · rw [e] at d; exact b d
        · exact a ⟨i, by omega, c, d⟩
      · intro a
        exact ⟨fun ⟨i, hi, c⟩ => a ⟨i, by omega, c⟩, fun b => a ⟨n, by omega, h, b⟩⟩
    · rw [if_neg h, ih]
      constructor
      · rintro a ⟨i, hi, c, d⟩
        by_cases e : i = n
        · rw [e] at c; exact h c
        · exact a ⟨i, by omega, c, d⟩
      · rintro a ⟨i, hi, c⟩
        exact a ⟨i, by omega, c⟩
theorem vw_s0 {a b : Nat} (ha : a < 2 ^ 30) (hb : b < 2 ^ 30) : nI a - nI b = 0 ↔ a = b := by
  have h := pk_sub_toInt ha hb
  constructor
  · intro z
    rw [z] at h
    have : (0 : Int32).toInt = 0 := by decide
    omega
  · intro z
    rw [z]; exact Int32.sub_self _
theorem vw_sge {a b : Nat} (ha : a < 2 ^ 30) (hb : b < 2 ^ 30) : 0 ≤ nI a - nI b ↔ b ≤ a := by
  have h := pk_sub_toInt ha hb
  rw [Int32.le_iff_toInt_le, h]
  have : (0 : Int32).toInt = 0 := by decide
  omega
theorem vw_sle {a b : Nat} (ha : a < 2 ^ 30) (hb : b < 2 ^ 30) : nI a - nI b ≤ 0 ↔ a ≤ b := by
  have h := pk_sub_toInt ha hb
  rw [Int32.le_iff_toInt_le, h]
  have : (0 : Int32).toInt = 0 := by decide
  omega
theorem vw_oaX (post : Int32 → Prop) (n : Nat) (st ofs wh so ta mk : Nat → Int32) (i s t : Nat) (hn : n ≤ 64) (ok : vw_ok n wh so ta) (hi : i < n) (hs : s < 128) (ht : t < 128) (hp : post (vw_o so ta (nI s) (nI t) i)) : wpX_offencesAgainst post (nI n, st, ofs, wh, so, ta, mk) (nI i) (nI s) (nI t) := by
  unfold wpX_offencesAgainst
  dsimp only
  have hcl : (nI i).toNatClampNeg = i := nI_clamp (by omega)
  have hin : vp_in (nI i) 64 := vp_in_nI (by omega) (by decide)
  obtain ⟨w, a, b, hw, ha, hb, hab, e1, e2, e3⟩ := ok i hi
  refine ⟨vw_4, hin, vw_4, nm_e ⟨vw_4, hin, vw_4, nm_e ?_⟩⟩
  rw [hcl, e2, e3, vw_c4 (a := s) (by omega), vw_c4 (a := t) (by omega), vw_c4 (a := a) (by omega), vw_c4 (a := b) (by omega)]
  unfold vw_o vw_sur at hp
  rw [e2, e3, vw_c4 (a := s) (by omega), vw_c4 (a := t) (by omega), vw_c4 (a := a) (by omega), vw_c4 (a := b) (by omega)] at hp
  have c1 : nI (b / 4) = nI (t / 4) ↔ b / 4 = t / 4 := nI_eq (by omega) (by omega)
  have c2 : nI (a / 4) ≤ nI (s / 4) ↔ a / 4 ≤ s / 4 := nI_leI (by omega) (by omega)
  have c3 : nI (t / 4) ≤ nI (b / 4) ↔ t / 4 ≤ b / 4 := nI_leI (by omega) (by omega)
  have c4 : nI (s / 4) ≤ nI (a / 4) ↔ s / 4 ≤ a / 4 := nI_leI (by omega) (by omega)
  have c5 : nI (b / 4) ≤ nI (t / 4) ↔ b / 4 ≤ t / 4 := nI_leI (by omega) (by omega)
  have z0 : nI (t / 4) - nI (b / 4) = 0 ↔ t / 4 = b / 4 := vw_s0 (by omega) (by omega)
  have z1 : 0 ≤ nI (t / 4) - nI (b / 4) ↔ b / 4 ≤ t / 4 := vw_sge (by omega) (by omega)
  have z2 : nI (t / 4) - nI (b / 4) ≤ 0 ↔ t / 4 ≤ b / 4 := vw_sle (by omega) (by omega)
  have y1 : 0 ≤ nI (s / 4) - nI (a / 4) ↔ a / 4 ≤ s / 4 := vw_sge (by omega) (by omega)
  have y2 : nI (s / 4) - nI (a / 4) ≤ 0 ↔ s / 4 ≤ a / 4 := vw_sle (by omega) (by omega)
  by_cases h1 : b / 4 = t / 4
  · rw [if_pos (c1.mpr h1)] at hp
    exact br_t (z0.mpr h1.symm) hp
  · rw [if_neg (fun z => h1 (c1.mp z))] at hp
    refine br_f (fun z => h1 (z0.mp z).symm) ?_
    by_cases h2 : a / 4 ≤ s / 4
    · rw [if_neg (fun z => z.1 (c2.mpr h2))] at hp
      refine br_t (y1.mpr h2) ?_
      by_cases h3 : s / 4 ≤ a / 4
      · rw [if_neg (fun z => z.1 (c4.mpr h3))] at hp
        exact br_t (y2.mpr h3) hp
      · refine br_f (fun z => h3 (y2.mp z)) ?_
        by_cases h4 : b / 4 ≤ t / 4
        · rw [if_neg (fun z => z.2 (c5.mpr h4))] at hp
          exact br_t (z1.mpr h4) hp
        · rw [if_pos ⟨fun z => h3 (c4.mp z), fun z => h4 (c5.mp z)⟩] at hp
          exact br_f (fun z => h4 (z1.mp z)) hp
    · refine br_f (fun z => h2 (y1.mp z)) ?_
      by_cases h5 : t / 4 ≤ b / 4
      · have h3 : s / 4 ≤ a / 4 := by omega
        rw [if_neg (fun z => z.2 (c3.mpr h5)), if_neg (fun z => z.1 (c4.mpr h3))] at hp
        exact br_t (z2.mpr h5) (br_t (y2.mpr h3) hp)
      · rw [if_pos ⟨fun z => h2 (c2.mp z), fun z => h5 (c3.mp z)⟩] at hp
        exact br_f (fun z => h5 (z2.mp z)) hp
theorem vw_ooX (post : Int32 → Prop) (n : Nat) (st ofs wh so ta mk : Nat → Int32) (x : Int32) (s t : Nat) (hn : n ≤ 64) (ok : vw_ok n wh so ta) (hs : s < 128) (ht : t < 128) (hp : post (vw_ac wh so ta x (nI s) (nI t) n)) : wpX_offencesOf post (nI n, st, ofs, wh, so, ta, mk) x (nI s) (nI t) := by
  refine ⟨n + 1, ?_⟩
  refine vw_acc n (fun m i r => wX_offencesOf_6 post x (nI s) (nI t) (nI n) st ofs wh so ta mk m r (nI i)) (vw_ac wh so ta x (nI s) (nI t)) ?_ ?_
  · intro m i hlt ih
    have hcl : (nI i).toNatClampNeg = i := nI_clamp (by omega)
    have hin : vp_in (nI i) 64 := vp_in_nI (by omega) (by decide)
    refine br_f (nI_ge hlt (by omega)) ⟨hin, ?_⟩
    rw [hcl]
    by_cases g : wh i = x
    · have es : vw_ac wh so ta x (nI s) (nI t) (i + 1) = vw_ac wh so ta x (nI s) (nI t) i ||| vw_o so ta (nI s) (nI t) i := if_pos g
      refine br_t g ?_
      exact vw_oaX _ n st ofs wh so ta mk i s t hn ok hlt hs ht (nm_r es.symm (nm_r (nI_1 i) ih))
    · have es : vw_ac wh so ta x (nI s) (nI t) (i + 1) = vw_ac wh so ta x (nI s) (nI t) i := if_neg g
      rw [es] at ih
      exact br_f g (nm_r (nI_1 i) ih)
  · intro m
    exact br_t (Int32.le_refl _) hp
theorem vw_hdX (post : Int32 → Prop) (n : Nat) (st ofs wh so ta mk : Nat → Int32) (x s t : Int32) (hn : n ≤ 64) (h1 : (∃ i, i < n ∧ wh i = x ∧ so i = s ∧ ta i = t) → post 1) (h0 : (¬ ∃ i, i < n ∧ wh i = x ∧ so i = s ∧ ta i = t) → post 0) : wpX_isHeld post (nI n, st, ofs, wh, so, ta, mk) x s t := by
  refine ⟨n + 1, ?_⟩
  refine vw_ex n (fun m i => wX_isHeld_3 post x s t (nI n) st ofs wh so ta mk m (nI i)) (fun i => wh i = x ∧ so i = s ∧ ta i = t) (post 1) (post 0) ?_ ?_ h1 h0
  · intro m i hlt hA hB
    have hcl : (nI i).toNatClampNeg = i := nI_clamp (by omega)
    have hin : vp_in (nI i) 64 := vp_in_nI (by omega) (by decide)
    refine br_f (nI_ge hlt (by omega)) ⟨hin, ?_⟩
    rw [hcl]
    by_cases g1 : wh i = x
    · refine br_t g1 ⟨hin, ?_⟩
      by_cases g2 : so i = s
      · refine br_t g2 ⟨hin, ?_⟩
        by_cases g3 : ta i = t
        · exact br_t g3 (hA ⟨g1, g2, g3⟩)
        · exact br_f g3 (nm_r (nI_1 i) (hB fun q => g3 q.2.2))
      · exact br_f g2 (nm_r (nI_1 i) (hB fun q => g2 q.2.1))
    · exact br_f g1 (nm_r (nI_1 i) (hB fun q => g1 q.1))
  · intro m hb
    exact br_t (Int32.le_refl _) hb
theorem vw_hdY (post : Int32 → Prop) (n : Nat) (st wh so ta ju : Nat → Int32) (x s t : Int32) (hn : n ≤ 64) (h1 : (∃ i, i < n ∧ wh i = x ∧ so i = s ∧ ta i = t) → post 1) (h0 : (¬ ∃ i, i < n ∧ wh i = x ∧ so i = s ∧ ta i = t) → post 0) : wpY_held post (nI n, st, wh, so, ta, ju) x s t := by
  refine ⟨n + 1, ?_⟩
  refine vw_ex n (fun m i => wY_held_3 post x s t (nI n) st wh so ta ju m (nI i)) (fun i => wh i = x ∧ so i = s ∧ ta i = t) (post 1) (post 0) ?_ ?_ h1 h0
  · intro m i hlt hA hB
    have hcl : (nI i).toNatClampNeg = i := nI_clamp (by omega)
    have hin : vp_in (nI i) 64 := vp_in_nI (by omega) (by decide)
    refine br_f (nI_ge hlt (by omega)) ⟨hin, ?_⟩
    rw [hcl]
    by_cases g1 : wh i = x
    · refine br_t g1 ⟨hin, ?_⟩
      by_cases g2 : so i = s
      · refine br_t g2 ⟨hin, ?_⟩
        by_cases g3 : ta i = t
        · exact br_t g3 (hA ⟨g1, g2, g3⟩)
        · exact br_f g3 (nm_r (nI_1 i) (hB fun q => g3 q.2.2))
      · exact br_f g2 (nm_r (nI_1 i) (hB fun q => g2 q.2.1))
    · exact br_f g1 (nm_r (nI_1 i) (hB fun q => g1 q.1))
  · intro m hb
    exact br_t (Int32.le_refl _) hb
/-- Y: one held vote, then the loop -/
theorem vw_stY (post : Int32 → SY → Prop) (J : Int32 → Int32 → Prop) (n : Nat) (st wh so ta ju : Nat → Int32) (x s t r : Int32) (i : Nat) (hi : i < n) (hn : n ≤ 64) (hp : J (r ||| vw_o so ta s t i) (nI (i + 1))) : ((ta i / 4 = t / 4 → (∀ y : Int32, y = r ||| 1 → wY_vote_101 post J x s t y (nI i) (nI n) st wh so ta ju)) ∧ (¬ ta i / 4 = t / 4 → wY_vote_101 post J x s t r (nI i) (nI n) st wh so ta ju)) := by
  have hcl : (nI i).toNatClampNeg = i := nI_clamp (by omega)
  have hin : vp_in (nI i) 64 := vp_in_nI (by omega) (by decide)
  have two : ∀ q, (¬ vw_sur (so i) (ta i) s t → J q (nI (i + 1))) → (vw_sur (so i) (ta i) s t → J (q ||| 4) (nI (i + 1))) → wY_vote_129 post J x s t q (nI i) (nI n) st wh so ta ju := by
    intro q a b
    refine ⟨hin, hin, ?_⟩
    rw [hcl]
    refine vw_surY _ _ _ _ _ ?_ ?_
    · intro g
      exact br_f vw_10 (nm_e (nm_r (nI_1 i) (b g)))
    · intro g
      exact br_t rfl (nm_r (nI_1 i) (a g))
  have one : ∀ q, (¬ vw_sur s t (so i) (ta i) → wY_vote_129 post J x s t q (nI i) (nI n) st wh so ta ju) → (vw_sur s t (so i) (ta i) → wY_vote_129 post J x s t (q ||| 2) (nI i) (nI n) st wh so ta ju) → wY_vote_101 post J x s t q (nI i) (nI n) st wh so ta ju := by
    intro q a b
    refine ⟨hin, hin, ?_⟩
    rw [hcl]
    refine vw_surY _ _ _ _ _ ?_ ?_
    · intro g
      exact br_f vw_10 (nm_e (b g))
    · intro g
      exact br_t rfl (a g)
  unfold vw_o at hp
  by_cases h1 : ta i / 4 = t / 4
  · rw [if_pos h1] at hp
    have k1 : ¬ vw_sur s t (so i) (ta i) := fun z => z.2 (by rw [h1]; exact Int32.le_refl _)
    have k2 : ¬ vw_sur (so i) (ta i) s t := fun z => z.2 (by rw [h1]; exact Int32.le_refl _)
    exact br_t h1 (nm_e (one _ (fun _ => two _ (fun _ => hp) fun z => absurd z k2) fun z => absurd z k1))
  · rw [if_neg h1] at hp
    refine br_f h1 ?_
    by_cases h2 : vw_sur s t (so i) (ta i)
    · rw [if_pos h2] at hp
      have k2 : ¬ vw_sur (so i) (ta i) s t := fun z => (Int32.le_total (so i / 4) (s / 4)).elim h2.1 z.1
      exact one _ (fun z => absurd h2 z) fun _ => two _ (fun _ => hp) fun z => absurd z k2
    · rw [if_neg h2] at hp
      refine one _ (fun _ => ?_) fun z => absurd z h2
      by_cases h3 : vw_sur (so i) (ta i) s t
      · rw [if_pos h3] at hp
        exact two _ (fun z => absurd h3 z) fun _ => hp
      · rw [if_neg h3, Int32.or_zero] at hp
        exact two _ (fun _ => hp) fun z => absurd z h3
theorem vw_vlY (post : Int32 → SY → Prop) (n : Nat) (st wh so ta ju : Nat → Int32) (x s t : Int32) (hn : n < 64) (hp : post (vw_ac wh so ta x s t n) (nI (n + 1), st, upd wh n x, upd so n s, upd ta n t, ju)) : ∃ m, wY_vote_60 post x s t (nI n) st wh so ta ju m 0 0 := by
  refine ⟨n + 1, ?_⟩
  refine vw_acc n (fun m i r => wY_vote_60 post x s t (nI n) st wh so ta ju m r (nI i)) (vw_ac wh so ta x s t) ?_ ?_
  · intro m i hlt ih
    have hcl : (nI i).toNatClampNeg = i := nI_clamp (by omega)
    have hin : vp_in (nI i) 64 := vp_in_nI (by omega) (by decide)
    refine br_f (nI_ge hlt (by omega)) ⟨hin, ?_⟩
    rw [hcl]
    by_cases g : wh i = x
    · have es : vw_ac wh so ta x s t (i + 1) = vw_ac wh so ta x s t i ||| vw_o so ta s t i := if_pos g
      rw [es] at ih
      exact br_t g ⟨hin, vw_4, vw_4, vw_stY post _ n st wh so ta ju x s t _ i hlt (by omega) ih⟩
    · have es : vw_ac wh so ta x s t (i + 1) = vw_ac wh so ta x s t i := if_neg g
      rw [es] at ih
      exact br_f g (nm_r (nI_1 i) ih)
  · intro m
    have hcl : (nI n).toNatClampNeg = n := nI_clamp (by omega)
    have hin : vp_in (nI n) 64 := vp_in_nI hn (by decide)
    refine br_t (Int32.le_refl _) ?_
    rw [hcl]
    exact ⟨hin, nm_e ⟨hin, nm_e ⟨hin, nm_e (nm_r (nI_1 n) hp)⟩⟩⟩
end
section
theorem vw_hold {f : Nat → Int32} {n i : Nat} {x : Int32} (h : i < n) : upd f n x i = f i := pk_un (by omega)
theorem vw_OffN (n : Nat) (wh so ta : Nat → Int32) (x s t y : Int32) : vw_Off (n + 1) (upd wh n x) (upd so n s) (upd ta n t) y ↔ (vw_Off n wh so ta y ∨ (y = x ∧ ∃ i, i < n ∧ wh i = x ∧ vw_hit so ta s t i)) := by
  constructor
  · rintro ⟨i, j, hi, hj, ne, ei, ej, b⟩
    unfold vw_bad2 at b
    by_cases hin : i = n
    · have hjn : j < n := by omega
      rw [hin, pk_us] at ei
      rw [vw_hold hjn] at ej
      rw [hin, pk_us, pk_us, vw_hold hjn, vw_hold hjn] at b
      refine Or.inr ⟨ei.symm, j, hjn, ej.trans ei.symm, ?_⟩
      rcases b with b | b
      · exact Or.inl b.symm
      · exact Or.inr (Or.inl b)
    · have hin' : i < n := by omega
      rw [vw_hold hin'] at ei
      rw [vw_hold hin', vw_hold hin'] at b
      by_cases hjn : j = n
      · rw [hjn, pk_us] at ej
        rw [hjn, pk_us, pk_us] at b
        refine Or.inr ⟨ej.symm, i, hin', ei.trans ej.symm, ?_⟩
        rcases b with b | b
        · exact Or.inl b
        · exact Or.inr (Or.inr b)
      · have hjn' : j < n := by omega
        rw [vw_hold hjn'] at ej
        rw [vw_hold hjn', vw_hold hjn'] at b
        exact Or.inl ⟨i, j, hin', hjn', ne, ei, ej, b⟩
  · rintro (⟨i, j, hi, hj, ne, ei, ej, b⟩ | ⟨rfl, i, hi, ei, b⟩)
    · refine ⟨i, j, by omega, by omega, ne, by rw [vw_hold hi]; exact ei, by rw [vw_hold hj]; exact ej, ?_⟩
      unfold vw_bad2
      rw [vw_hold hi, vw_hold hi, vw_hold hj, vw_hold hj]
      exact b
    · have ne : i ≠ n := by omega
      have e1 : upd wh n y i = y := by rw [vw_hold hi]; exact ei
      have e2 : upd wh n y n = y := pk_us
      rcases b with b | b | b
      · refine ⟨i, n, by omega, by omega, ne, e1, e2, Or.inl ?_⟩
        rw [vw_hold hi, pk_us]; exact b
      · refine ⟨n, i, by omega, by omega, ne.symm, e2, e1, Or.inr ?_⟩
        rw [vw_hold hi, vw_hold hi, pk_us, pk_us]; exact b
      · refine ⟨i, n, by omega, by omega, ne, e1, e2, Or.inr ?_⟩
        rw [vw_hold hi, vw_hold hi, pk_us, pk_us]; exact b
theorem vw_okN {n : Nat} {wh so ta : Nat → Int32} (ok : vw_ok n wh so ta) {w s t : Nat} (hw : w < 8) (hs : s < 128) (ht : t < 128) (h : s / 4 < t / 4) : vw_ok (n + 1) (upd wh n (nI w)) (upd so n (nI s)) (upd ta n (nI t)) := by
  intro i hi
  by_cases e : i = n
  · rw [e, pk_us, pk_us, pk_us]
    exact ⟨w, s, t, hw, hs, ht, h, rfl, rfl, rfl⟩
  · have hi' : i < n := by omega
    rw [vw_hold hi', vw_hold hi', vw_hold hi']
    exact ok i hi'
def vw_lkY (A B : Prop) (p q : Int32) : Prop := wpY_badPoint (fun r_3 => (((r_3 = 0 → (wpY_badPoint (fun r_5 => (((r_5 = 0 → (¬ (4 : Int32) = 0 ∧ (¬ (4 : Int32) = 0 ∧ ((((p / 4) < (q / 4) → A) ∧ (¬ (p / 4) < (q / 4) → B)))))) ∧ (¬ r_5 = 0 → B)))) q)) ∧ (¬ r_3 = 0 → B)))) p
theorem vw_link (p q : Int32) : (∃ s t : Nat, s < 128 ∧ t < 128 ∧ s / 4 < t / 4 ∧ p = nI s ∧ q = nI t ∧ (∀ post : Int32 → Prop, post 1 → wpX_isLink post p q) ∧ (∀ A B : Prop, A → vw_lkY A B p q)) ∨ ((∀ post : Int32 → Prop, post 0 → wpX_isLink post p q) ∧ (∀ A B : Prop, B → vw_lkY A B p q)) := by
  unfold wpX_isLink vw_lkY
  rcases vw_ck p with ⟨s, hs, rfl, hX, hY⟩ | ⟨hX, hY⟩
  · rcases vw_ck q with ⟨t, ht, rfl, hX', hY'⟩ | ⟨hX', hY'⟩
    · have es := vw_c4 (a := s) (by omega)
      have et := vw_c4 (a := t) (by omega)
      by_cases h : s / 4 < t / 4
      · refine Or.inl ⟨s, t, hs, ht, h, rfl, rfl, fun post hp => hX _ (br_f vw_10 (hX' _ (br_f vw_10 ⟨vw_4, vw_4, ?_⟩))), fun A B a => hY _ (br_t rfl (hY' _ (br_t rfl ⟨vw_4, vw_4, ?_⟩)))⟩
        · rw [es, et]; exact br_f (nI_ge h (by omega)) hp
        · rw [es, et]; exact br_t (nI_lt h (by omega)) a
      · refine Or.inr ⟨fun post hp => hX _ (br_f vw_10 (hX' _ (br_f vw_10 ⟨vw_4, vw_4, ?_⟩))), fun A B b => hY _ (br_t rfl (hY' _ (br_t rfl ⟨vw_4, vw_4, ?_⟩)))⟩
        · rw [es, et]; exact br_t (nI_le (by omega) (by omega)) hp
        · rw [es, et]; exact br_f (nI_nlt (by omega) (by omega)) b
    · exact Or.inr ⟨fun post hp => hX _ (br_f vw_10 (hX' _ (br_t rfl hp))), fun A B b => hY _ (br_t rfl (hY' _ (br_f vw_10 b)))⟩
  · exact Or.inr ⟨fun post hp => hX _ (br_t rfl hp), fun A B b => hY _ (br_f vw_10 b)⟩
theorem vw_v60 (post : Int32 → SX → Prop) (n : Nat) (st ofs wh so ta mk : Nat → Int32) (x s t r : Int32) (hn : n < 64) (hp : post r (nI (n + 1), st, ofs, upd wh n x, upd so n s, upd ta n t, mk)) : wX_vote_60 post x s t r (nI n) st ofs wh so ta mk := by
  have hcl : (nI n).toNatClampNeg = n := nI_clamp (by omega)
  have hin : vp_in (nI n) 64 := vp_in_nI hn (by decide)
  unfold wX_vote_60
  rw [hcl]
  exact ⟨hin, nm_e ⟨hin, nm_e ⟨hin, nm_e (nm_r (nI_1 n) hp)⟩⟩⟩
theorem i_vc_vote {k : Nat} {u : SX} {v : SY} (I : i_Rel k u v) (hk : k + 4 ≤ 2048) (v1 : Int32) (v2 : Int32) (v3 : Int32) : wpX_vote (fun r u' => wpY_vote (fun r' v' => r' = r ∧ i_Rel (k + 4) u' v') v v1 v2 v3) u v1 v2 v3 := by
  obtain ⟨n, st, ofs, wh, so, ta, mk, ju, rfl, rfl, hn, ok, hof⟩ := I
  have R : i_Rel (k + 4) (nI n, st, ofs, wh, so, ta, mk) (nI n, st, wh, so, ta, ju) := ⟨n, st, ofs, wh, so, ta, mk, ju, rfl, rfl, hn, ok, hof⟩
  unfold wpX_vote
  dsimp only
  rcases vw_val v1 with ⟨w, hw, rfl, hX, hY⟩ | ⟨hX, hY⟩
  · refine hX _ (br_f vw_10 ?_)
    rcases vw_link v2 v3 with ⟨s, t, hs, ht, hst, rfl, rfl, hXl, hYl⟩ | ⟨hXl, hYl⟩
    · refine hXl _ (br_f vw_10 ?_)
      by_cases hf : n = 64
      · have e64 : nI n = 64 := by rw [hf]; rfl
        refine br_t (by rw [e64]; exact Int32.le_refl _) ?_
        unfold wpY_vote
        dsimp only
        refine hY _ (br_t rfl (hYl _ _ ?_))
        refine vw_hdY _ n st wh so ta ju (nI w) (nI s) (nI t) hn ?_ ?_
        · intro _
          exact br_f vw_10 ⟨rfl, R⟩
        · intro _
          exact br_t rfl (br_t e64 ⟨rfl, R⟩)
      · have hn' : n < 64 := by omega
        refine br_f (nI_ge (b := 64) hn' (by decide)) ?_
        refine vw_hdX _ n st ofs wh so ta mk (nI w) (nI s) (nI t) hn ?_ ?_
        · intro g
          refine br_f vw_10 ?_
          unfold wpY_vote
          dsimp only
          refine hY _ (br_t rfl (hYl _ _ ?_))
          refine vw_hdY _ n st wh so ta ju (nI w) (nI s) (nI t) hn ?_ ?_
          · intro _
            exact br_f vw_10 ⟨rfl, R⟩
          · intro z
            exact absurd g z
        · intro g
          refine br_t rfl ?_
          have walk : ∀ ofs' : Nat → Int32, (∀ x, x < 8 → (ofs' x = 0 ↔ ¬ vw_Off (n + 1) (upd wh n (nI w)) (upd so n (nI s)) (upd ta n (nI t)) (nI x))) → wpY_vote (fun r' v' => r' = vw_ac wh so ta (nI w) (nI s) (nI t) n ∧ i_Rel (k + 4) (nI (n + 1), st, ofs', upd wh n (nI w), upd so n (nI s), upd ta n (nI t), mk) v') (nI n, st, wh, so, ta, ju) (nI w) (nI s) (nI t) := by
            intro ofs' h'
            unfold wpY_vote
            dsimp only
            refine hY _ (br_t rfl (hYl _ _ ?_))
            refine vw_hdY _ n st wh so ta ju (nI w) (nI s) (nI t) hn ?_ ?_
            · intro z
              exact absurd z g
            · intro _
              refine br_t rfl (br_f (fun z => hf ((nI_eq (b := 64) (by omega) (by decide)).mp z)) ?_)
              refine vw_vlY _ n st wh so ta ju (nI w) (nI s) (nI t) hn' ?_
              exact ⟨rfl, n + 1, st, ofs', _, _, _, mk, ju, rfl, rfl, hn', vw_okN ok hw hs ht hst, h'⟩
          refine vw_ooX _ n st ofs wh so ta mk (nI w) s t hn ok hs ht ?_
          have a0 := vw_ac0 wh so ta (nI w) (nI s) (nI t) n
          by_cases z : vw_ac wh so ta (nI w) (nI s) (nI t) n = 0
          · refine br_t z ?_
            refine vw_v60 _ n st ofs wh so ta mk (nI w) (nI s) (nI t) _ hn' ?_
            refine walk ofs ?_
            intro x hx
            rw [vw_OffN, hof x hx]
            constructor
            · intro h y
              exact y.elim h fun q => (a0.mp z) q.2
            · intro h y
              exact h (Or.inl y)
          · refine br_f z ⟨vp_in_nI hw (by decide), ?_⟩
            rw [vw_n1, nI_clamp (n := w) (by omega)]
            refine nm_e ?_
            refine vw_v60 _ n st _ wh so ta mk (nI w) (nI s) (nI t) _ hn' ?_
            refine walk _ ?_
            intro x hx
            rw [vw_OffN]
            have hex : ∃ i, i < n ∧ wh i = nI w ∧ vw_hit so ta (nI s) (nI t) i := Classical.byContradiction fun y => z (a0.mpr y)
            by_cases e : x = w
            · rw [e, pk_us]
              exact ⟨fun y => absurd y vw_10, fun y => absurd (Or.inr ⟨rfl, hex⟩) y⟩
            · rw [pk_un e, hof x hx]
              constructor
              · intro h y
                exact y.elim h fun q => e ((nI_eq (by omega) (by omega)).mp q.1)
              · intro h y
                exact h (Or.inl y)
    · refine hXl _ (br_t rfl ?_)
      unfold wpY_vote
      dsimp only
      exact hY _ (br_t rfl (hYl _ _ ⟨rfl, R⟩))
  · refine hX _ (br_t rfl ?_)
    unfold wpY_vote
    dsimp only
    exact hY _ (br_f vw_10 ⟨rfl, R⟩)
end
