/-- X: the marks, upwards -/
theorem vw_hsX (post : Int32 → Prop) (n : Nat) (st ofs wh so ta mk : Nat → Int32) (x : Int32) (hn : n ≤ 64) (ok : vw_ok n wh so ta) (h1 : (∃ i, i < n ∧ ta i = x ∧ ¬ mk (so i).toNatClampNeg = 0 ∧ vw_S n st wh so ta (so i) x) → post 1) (h0 : (¬ ∃ i, i < n ∧ ta i = x ∧ ¬ mk (so i).toNatClampNeg = 0 ∧ vw_S n st wh so ta (so i) x) → post 0) : wpX_hasSupportedSource post (nI n, st, ofs, wh, so, ta, mk) x := by
  refine ⟨n + 1, ?_⟩
  refine vw_ex n (fun m i => wX_hasSupportedSource_2 post x (nI n) st ofs wh so ta mk m (nI i)) (fun i => ta i = x ∧ ¬ mk (so i).toNatClampNeg = 0 ∧ vw_S n st wh so ta (so i) x) (post 1) (post 0) ?_ ?_ h1 h0
  · intro m i hlt hA hB
    have hcl : (nI i).toNatClampNeg = i := nI_clamp (by omega)
    have hin : vp_in (nI i) 64 := vp_in_nI (by omega) (by decide)
    obtain ⟨w, s, t, hw, hs, ht, hst, e1, e2, e3⟩ := ok i hlt
    refine br_f (nI_ge hlt (by omega)) ⟨hin, ?_⟩
    rw [hcl]
    by_cases g1 : ta i = x
    · refine br_t g1 ⟨hin, by rw [e2]; exact vp_in_nI hs (by decide), ?_⟩
      by_cases g2 : mk (so i).toNatClampNeg = 0
      · exact br_t g2 (nm_r (nI_1 i) (hB fun q => q.2.1 g2))
      · refine br_f g2 ⟨hin, ?_⟩
        refine vw_suX _ n st ofs wh so ta mk (so i) x hn ok ?_ ?_
        · intro g3
          exact br_f vw_10 (hA ⟨g1, g2, g3⟩)
        · intro g3
          exact br_t rfl (nm_r (nI_1 i) (hB fun q => g3 q.2.2))
    · exact br_f g1 (nm_r (nI_1 i) (hB fun q => g1 q.1))
  · intro m hb
    exact br_t (Int32.le_refl _) hb
theorem vw_stepF {n c : Nat} {st wh so ta mk : Nat → Int32} (ok : vw_ok n wh so ta) (hc : c < 128) (I : vw_F c n st wh so ta mk) (b : Int32) (hb : ¬ b = 0 ↔ (c = 0 ∨ ∃ i, i < n ∧ ta i = nI c ∧ ¬ mk (so i).toNatClampNeg = 0 ∧ vw_S n st wh so ta (so i) (nI c))) : vw_F (c + 1) n st wh so ta (upd mk c b) := by
  intro d hd
  have hx : ∀ i, i < n → ta i = nI d → upd mk c b (so i).toNatClampNeg = mk (so i).toNatClampNeg := by
    intro i hi e
    obtain ⟨w, s, t, hw, hs, ht, hst, e1, e2, e3⟩ := ok i hi
    have et : t = d := (nI_eq (by omega) (by omega)).mp (e3.symm.trans e)
    have es : (so i).toNatClampNeg = s := by rw [e2]; exact nI_clamp (by omega)
    rw [es]
    exact pk_un (by omega)
  have hE : (∃ i, i < n ∧ ta i = nI d ∧ ¬ upd mk c b (so i).toNatClampNeg = 0 ∧ vw_S n st wh so ta (so i) (nI d)) ↔ (∃ i, i < n ∧ ta i = nI d ∧ ¬ mk (so i).toNatClampNeg = 0 ∧ vw_S n st wh so ta (so i) (nI d)) := by
    constructor
    · rintro ⟨i, a1, a2, a3, a4⟩
      rw [hx i a1 a2] at a3
      exact ⟨i, a1, a2, a3, a4⟩
    · rintro ⟨i, a1, a2, a3, a4⟩
      rw [← hx i a1 a2] at a3
      exact ⟨i, a1, a2, a3, a4⟩
  rw [hE]
  by_cases e : d = c
  · rw [e, pk_us]; exact hb
  · rw [pk_un e]; exact I d (by omega)
theorem vw_mjX (post : SX → Prop) (n : Nat) (st ofs wh so ta mk : Nat → Int32) (hn : n ≤ 64) (ok : vw_ok n wh so ta) (hp : ∀ g, vw_F 128 n st wh so ta g → post (nI n, st, ofs, wh, so, ta, g)) : wpX_markJustified post (nI n, st, ofs, wh, so, ta, mk) := by
  refine loop_0 (fun m c g => wX_markJustified_2 post (nI n) m (nI c) st ofs wh so ta g) (fun c g => vw_F c n st wh so ta g) 128 mk (fun c hc => absurd hc (by omega)) ?_ ?_
  · intro m g hg
    exact br_t (by decide) (hp g hg)
  · intro m c g hc hg ih
    have hcl : (nI c).toNatClampNeg = c := nI_clamp (by omega)
    have hin : vp_in (nI c) 128 := vp_in_nI (by omega) (by decide)
    refine br_f (nI_ge (b := 128) hc (by decide)) ?_
    by_cases z : c = 0
    · have hz : nI c = 0 := by rw [z]; rfl
      refine br_t hz ⟨hin, ?_⟩
      rw [hcl, vw_n1]
      exact nm_e (nm_r (nI_1 c) (ih _ (vw_stepF ok hc hg 1 ⟨fun _ => Or.inl z, fun _ => vw_10⟩)))
    · refine br_f (nI_ne0 (by omega) (by omega)) ?_
      refine vw_hsX _ n st ofs wh so ta g (nI c) hn ok ?_ ?_
      · intro hex
        refine br_f vw_10 ⟨hin, ?_⟩
        rw [hcl, vw_n1]
        exact nm_e (nm_r (nI_1 c) (ih _ (vw_stepF ok hc hg 1 ⟨fun _ => Or.inr hex, fun _ => vw_10⟩)))
      · intro hex
        refine br_t rfl ⟨hin, ?_⟩
        rw [hcl, vw_n0]
        exact nm_e (nm_r (nI_1 c) (ih _ (vw_stepF ok hc hg 0 ⟨fun y => absurd rfl y, fun y => absurd y (fun y => y.elim z hex)⟩)))
/-- Y: the rounds -/
def vw_cnt (ta ju : Nat → Int32) : Nat → Nat
  | 0 => 0
  | n + 1 => vw_cnt ta ju n + (if ju (ta n).toNatClampNeg = 0 then 1 else 0)
theorem vw_cnt_n (ta ju : Nat → Int32) : ∀ n, vw_cnt ta ju n ≤ n := by
  intro n
  induction n with
  | zero => exact Nat.le_refl _
  | succ n ih =>
    show vw_cnt ta ju n + (if ju (ta n).toNatClampNeg = 0 then 1 else 0) ≤ n + 1
    split <;> omega
theorem vw_cnt_u (ta ju : Nat → Int32) (t : Nat) : ∀ n, vw_cnt ta (upd ju t 1) n ≤ vw_cnt ta ju n := by
  intro n
  induction n with
  | zero => exact Nat.le_refl _
  | succ n ih =>
    show vw_cnt ta (upd ju t 1) n + (if upd ju t 1 (ta n).toNatClampNeg = 0 then 1 else 0) ≤ vw_cnt ta ju n + (if ju (ta n).toNatClampNeg = 0 then 1 else 0)
    by_cases e : (ta n).toNatClampNeg = t
    · rw [e, pk_us, if_neg vw_10]; omega
    · rw [pk_un e]; omega
theorem vw_cnt_d (ta ju : Nat → Int32) (t : Nat) (hj : ju t = 0) (i : Nat) (hi : (ta i).toNatClampNeg = t) : ∀ n, i < n → vw_cnt ta (upd ju t 1) n + 1 ≤ vw_cnt ta ju n := by
  intro n
  induction n with
  | zero => intro h; omega
  | succ n ih =>
    intro h
    show vw_cnt ta (upd ju t 1) n + (if upd ju t 1 (ta n).toNatClampNeg = 0 then 1 else 0) + 1 ≤ vw_cnt ta ju n + (if ju (ta n).toNatClampNeg = 0 then 1 else 0)
    have hu := vw_cnt_u ta ju t n
    by_cases e : (ta n).toNatClampNeg = t
    · rw [e, pk_us, if_neg vw_10, if_pos hj]; omega
    · have hin : i < n := by
        rcases Nat.lt_or_ge i n with h' | h'
        · exact h'
        · have : i = n := by omega
          rw [this] at hi
          exact absurd hi e
      have := ih hin
      rw [pk_un e]; omega
def vw_snd (n : Nat) (st wh so ta ju : Nat → Int32) : Prop := ∀ c, c < 128 → ¬ ju c = 0 → (c = 0 ∨ ∃ i, i < n ∧ ta i = nI c ∧ ¬ ju (so i).toNatClampNeg = 0 ∧ vw_S n st wh so ta (so i) (nI c))
def vw_cls (n k : Nat) (st wh so ta ju : Nat → Int32) : Prop := ∀ i, i < k → ¬ ju (so i).toNatClampNeg = 0 → vw_S n st wh so ta (so i) (ta i) → ¬ ju (ta i).toNatClampNeg = 0
theorem vw_FY {n : Nat} {st wh so ta ju : Nat → Int32} (hs : vw_snd n st wh so ta ju) (h0 : ¬ ju 0 = 0) (hc : vw_cls n n st wh so ta ju) : vw_F 128 n st wh so ta ju := by
  intro c h
  refine ⟨hs c h, ?_⟩
  rintro (z | ⟨i, hi, e, a, b⟩)
  · rw [z]; exact h0
  · rw [← e] at b
    have := hc i hi a b
    rw [e, nI_clamp (by omega)] at this
    exact this
theorem vw_mono {ju : Nat → Int32} (t : Nat) {x : Nat} (h : ¬ ju x = 0) : ¬ upd ju t 1 x = 0 := by
  by_cases e : x = t
  · rw [e, pk_us]; exact vw_10
  · rw [pk_un e]; exact h
theorem vw_sndU {n : Nat} {st wh so ta ju : Nat → Int32} (hs : vw_snd n st wh so ta ju) {t i : Nat} (hi : i < n) (et : ta i = nI t) (h1 : ¬ ju (so i).toNatClampNeg = 0) (h2 : vw_S n st wh so ta (so i) (nI t)) : vw_snd n st wh so ta (upd ju t 1) := by
  intro c hc h
  by_cases e : c = t
  · rw [e]
    exact Or.inr ⟨i, hi, et, vw_mono t h1, h2⟩
  · rw [pk_un e] at h
    rcases hs c hc h with z | ⟨j, hj, a, b, d⟩
    · exact Or.inl z
    · exact Or.inr ⟨j, hj, a, vw_mono t b, d⟩
/-- one round: from s.1 = 0 -/
def vw_I (n c0 : Nat) (st wh so ta : Nat → Int32) (i : Nat) (s : Int32 × (Nat → Int32)) : Prop := vw_snd n st wh so ta s.2 ∧ ¬ s.2 0 = 0 ∧ (s.1 = 0 → vw_cls n i st wh so ta s.2) ∧ vw_cnt ta s.2 n ≤ c0 ∧ (¬ s.1 = 0 → vw_cnt ta s.2 n + 1 ≤ c0)
theorem vw_rndY (post : SY → Prop) (J : Int32 → Int32 → (Nat → Int32) → (Nat → Int32) → (Nat → Int32) → (Nat → Int32) → (Nat → Int32) → Prop) (n r c0 : Nat) (st wh so ta ju : Nat → Int32) (hn : n ≤ 64) (ok : vw_ok n wh so ta) (h : vw_I n c0 st wh so ta 0 (0, ju)) (hp : ∀ x g, vw_I n c0 st wh so ta n (x, g) → J x (nI (r + 1)) st wh so ta g) : ∃ m, wY_justify_48 post J (nI r) (nI n) m 0 0 st wh so ta ju := by
  refine loop_0 (fun m i (s : Int32 × (Nat → Int32)) => wY_justify_48 post J (nI r) (nI n) m s.1 (nI i) st wh so ta s.2) (vw_I n c0 st wh so ta) n (0, ju) h ?_ ?_
  · intro m s hs
    exact br_t (Int32.le_refl _) (nm_r (nI_1 r) (hp s.1 s.2 hs))
  · rintro m i ⟨x, g⟩ hlt ⟨a1, a2, a3, a4, a5⟩ ih
    have hcl : (nI i).toNatClampNeg = i := nI_clamp (by omega)
    have hin : vp_in (nI i) 64 := vp_in_nI (by omega) (by decide)
    obtain ⟨w, s, t, hw, hs, ht, hst, e1, e2, e3⟩ := ok i hlt
    have et : (ta i).toNatClampNeg = t := by rw [e3]; exact nI_clamp (by omega)
    have his : vp_in (so i) 128 := by rw [e2]; exact vp_in_nI hs (by decide)
    have hit : vp_in (ta i) 128 := by rw [e3]; exact vp_in_nI ht (by decide)
    have keep : (¬ g (so i).toNatClampNeg = 0 → vw_S n st wh so ta (so i) (ta i) → ¬ g (ta i).toNatClampNeg = 0) → wY_justify_48 post J (nI r) (nI n) m x (nI (i + 1)) st wh so ta g := fun q => ih (x, g) ⟨a1, a2, fun z => lt_s (a3 z) q, a4, a5⟩
    dsimp only at a1 a2 a3 a4 a5 ⊢
    refine br_f (nI_ge hlt (by omega)) ⟨hin, ?_⟩
    rw [hcl]
    refine ⟨his, ?_⟩
    by_cases g1 : g (so i).toNatClampNeg = 0
    · exact br_t g1 (nm_r (nI_1 i) (keep fun q => absurd g1 q))
    · refine br_f g1 ⟨hin, hit, ?_⟩
      by_cases g2 : g (ta i).toNatClampNeg = 0
      · refine br_t g2 ⟨hin, hin, ?_⟩
        refine vw_suY _ n st wh so ta g (so i) (ta i) hn ok ?_ ?_
        · intro g3
          refine br_f vw_10 ⟨hin, hit, ?_⟩
          rw [vw_n1, et]
          rw [et] at g2
          rw [e3] at g3
          have hd := vw_cnt_d ta g t g2 i et n hlt
          exact nm_e (nm_r (nI_1 i) (ih (1, upd g t 1) ⟨vw_sndU a1 hlt e3 g1 g3, vw_mono t a2, fun z => absurd z vw_10, by dsimp only; omega, fun _ => by dsimp only; omega⟩))
        · intro g3
          exact br_t rfl (nm_r (nI_1 i) (keep fun _ q => absurd q g3))
      · exact br_f g2 (nm_r (nI_1 i) (keep fun _ _ => g2))
theorem vw_rndsY (post : SY → Prop) (n : Nat) (st wh so ta ju : Nat → Int32) (hn : n ≤ 64) (ok : vw_ok n wh so ta) (h1 : vw_snd n st wh so ta ju) (h2 : ¬ ju 0 = 0) (hp : ∀ g, vw_F 128 n st wh so ta g → post (nI n, st, wh, so, ta, g)) : ∃ m, wY_justify_34 post (nI n) m 1 0 st wh so ta ju := by
  refine loop_0 (fun m r (s : Int32 × (Nat → Int32)) => wY_justify_34 post (nI n) m s.1 (nI r) st wh so ta s.2) (fun r s => vw_snd n st wh so ta s.2 ∧ ¬ s.2 0 = 0 ∧ (s.1 = 0 → vw_cls n n st wh so ta s.2) ∧ (¬ s.1 = 0 → vw_cnt ta s.2 n + r ≤ 64)) 65 (1, ju) ⟨h1, h2, fun z => absurd z vw_10, fun _ => by have := vw_cnt_n ta ju n; dsimp only; omega⟩ ?_ ?_
  · rintro m ⟨x, g⟩ ⟨a1, a2, a3, a4⟩
    dsimp only at a1 a2 a3 a4 ⊢
    have hx : x = 0 := Classical.byContradiction fun z => by have := a4 z; omega
    exact br_t (by decide) (hp g (vw_FY a1 a2 (a3 hx)))
  · rintro m r ⟨x, g⟩ hr ⟨a1, a2, a3, a4⟩ ih
    dsimp only at a1 a2 a3 a4 ⊢
    refine br_f (nI_ge (b := 65) hr (by decide)) ?_
    by_cases hx : x = 0
    · exact br_t hx (hp g (vw_FY a1 a2 (a3 hx)))
    · refine br_f hx ?_
      have h4 := a4 hx
      refine vw_rndY post _ n r (vw_cnt ta g n) st wh so ta g hn ok ⟨a1, a2, fun _ => lt_0, Nat.le_refl _, fun z => absurd rfl z⟩ ?_
      rintro y q ⟨b1, b2, b3, b4, b5⟩
      dsimp only at b1 b2 b3 b4 b5
      exact ih (y, q) ⟨b1, b2, b3, fun z => by have := b5 z; dsimp only; omega⟩
theorem vw_mjY (post : SY → Prop) (n : Nat) (st wh so ta ju : Nat → Int32) (hn : n ≤ 64) (ok : vw_ok n wh so ta) (hp : ∀ g, vw_F 128 n st wh so ta g → post (nI n, st, wh, so, ta, g)) : wpY_justify post (nI n, st, wh, so, ta, ju) := by
  refine loop_0 (fun m c g => wY_justify_2 post (nI n) m (nI c) st wh so ta g) (fun c g => ∀ d, d < c → (¬ g d = 0 ↔ d = 0)) 128 ju lt_0 ?_ ?_
  · intro m g hg
    refine br_t (by decide) ?_
    exact vw_rndsY post n st wh so ta g hn ok (fun c hc h => Or.inl ((hg c hc).mp h)) ((hg 0 (by omega)).mpr rfl) hp
  · intro m c g hc hg ih
    have hcl : (nI c).toNatClampNeg = c := nI_clamp (by omega)
    have hin : vp_in (nI c) 128 := vp_in_nI (by omega) (by decide)
    have hu : ∀ b : Int32, (¬ b = 0 ↔ c = 0) → ∀ d, d < c + 1 → (¬ upd g c b d = 0 ↔ d = 0) := by
      intro b hb d hd
      by_cases e : d = c
      · rw [e, pk_us]; exact hb
      · rw [pk_un e]; exact hg d (by omega)
    refine br_f (nI_ge (b := 128) hc (by decide)) ?_
    by_cases z : c = 0
    · have hz : nI c = 0 := by rw [z]; rfl
      refine br_t hz ⟨hin, ?_⟩
      rw [hcl, vw_n1]
      exact nm_e (nm_r (nI_1 c) (ih _ (hu 1 ⟨fun _ => z, fun _ => vw_10⟩)))
    · refine br_f (nI_ne0 (by omega) (by omega)) ⟨hin, ?_⟩
      rw [hcl, vw_n0]
      exact nm_e (nm_r (nI_1 c) (ih _ (hu 0 ⟨fun y => absurd rfl y, fun y => absurd y z⟩)))
