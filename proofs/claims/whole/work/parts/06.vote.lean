/-- the offences of a new vote against the held one at i, and their or -/
def vw_o (so ta : Nat → Int32) (s t : Int32) (i : Nat) : Int32 := if ta i / 4 = t / 4 then 1 else if vw_sur s t (so i) (ta i) then 2 else if vw_sur (so i) (ta i) s t then 4 else 0
def vw_ac (wh so ta : Nat → Int32) (x s t : Int32) : Nat → Int32
  | 0 => 0
  | n + 1 => if wh n = x then vw_ac wh so ta x s t n ||| vw_o so ta s t n else vw_ac wh so ta x s t n
def vw_hit (so ta : Nat → Int32) (s t : Int32) (i : Nat) : Prop := ta i / 4 = t / 4 ∨ vw_sur s t (so i) (ta i) ∨ vw_sur (so i) (ta i) s t
theorem vw_o0 (so ta : Nat → Int32) (s t : Int32) (i : Nat) : vw_o so ta s t i = 0 ↔ ¬ vw_hit so ta s t i := by
  unfold vw_o vw_hit
  by_cases h1 : ta i / 4 = t / 4
  · rw [if_pos h1]
    exact ⟨fun z => absurd z (by decide), fun z => absurd (Or.inl h1) z⟩
  · rw [if_neg h1]
    by_cases h2 : vw_sur s t (so i) (ta i)
    · rw [if_pos h2]
      exact ⟨fun z => absurd z (by decide), fun z => absurd (Or.inr (Or.inl h2)) z⟩
    · rw [if_neg h2]
      by_cases h3 : vw_sur (so i) (ta i) s t
      · rw [if_pos h3]
        exact ⟨fun z => absurd z (by decide), fun z => absurd (Or.inr (Or.inr h3)) z⟩
      · rw [if_neg h3]
        exact ⟨fun _ => fun z => z.elim h1 fun y => y.elim h2 h3, fun _ => rfl⟩
theorem vw_or0 (a b : Int32) : a ||| b = 0 ↔ a = 0 ∧ b = 0 := by
  constructor
  · intro h
    have e : a.toBitVec ||| b.toBitVec = 0#32 := by rw [← Int32.toBitVec_or, h]; rfl
    have e' := BitVec.or_eq_zero_iff.mp e
    exact ⟨Int32.toBitVec_inj.mp e'.1, Int32.toBitVec_inj.mp e'.2⟩
  · rintro ⟨rfl, rfl⟩
    decide
theorem vw_ac0 (wh so ta : Nat → Int32) (x s t : Int32) : ∀ n, vw_ac wh so ta x s t n = 0 ↔ ¬ ∃ i, i < n ∧ wh i = x ∧ vw_hit so ta s t i := by
  intro n
  induction n with
  | zero =>
    refine ⟨fun _ => ?_, fun _ => rfl⟩
    rintro ⟨i, hi, _⟩
    omega
  | succ n ih =>
    show (if wh n = x then vw_ac wh so ta x s t n ||| vw_o so ta s t n else vw_ac wh so ta x s t n) = 0 ↔ _
    by_cases h : wh n = x
    · rw [if_pos h, vw_or0, ih, vw_o0]
      constructor
      · rintro ⟨a, b⟩ ⟨i, hi, c, d⟩
        by_cases e : i = n
        · rw [e] at d; exact b d
        · exact a ⟨i, by omega, c, d⟩
      · intro a
        exact ⟨fun ⟨i, hi, c⟩ => a ⟨i, by omega, c⟩, fun b => a ⟨n, by omega, h, b⟩⟩
    · rw [if_neg h, ih]
      constructor
      · rintro a ⟨i, hi, c, d⟩
        by_cases e : i = n
        · rw [e] at c; exact h c
        · exact a ⟨i, by omega, c, d⟩
      · rintro a ⟨i, hi, c⟩
        exact a ⟨i, by omega, c⟩
theorem vw_s0 {a b : Nat} (ha : a < 2 ^ 30) (hb : b < 2 ^ 30) : nI a - nI b = 0 ↔ a = b := by
  have h := pk_sub_toInt ha hb
  constructor
  · intro z
    rw [z] at h
    have : (0 : Int32).toInt = 0 := by decide
    omega
  · intro z
    rw [z]; exact Int32.sub_self _
theorem vw_sge {a b : Nat} (ha : a < 2 ^ 30) (hb : b < 2 ^ 30) : 0 ≤ nI a - nI b ↔ b ≤ a := by
  have h := pk_sub_toInt ha hb
  rw [Int32.le_iff_toInt_le, h]
  have : (0 : Int32).toInt = 0 := by decide
  omega
theorem vw_sle {a b : Nat} (ha : a < 2 ^ 30) (hb : b < 2 ^ 30) : nI a - nI b ≤ 0 ↔ a ≤ b := by
  have h := pk_sub_toInt ha hb
  rw [Int32.le_iff_toInt_le, h]
  have : (0 : Int32).toInt = 0 := by decide
  omega
theorem vw_oaX (post : Int32 → Prop) (n : Nat) (st ofs wh so ta mk : Nat → Int32) (i s t : Nat) (hn : n ≤ 64) (ok : vw_ok n wh so ta) (hi : i < n) (hs : s < 128) (ht : t < 128) (hp : post (vw_o so ta (nI s) (nI t) i)) : wpX_offencesAgainst post (nI n, st, ofs, wh, so, ta, mk) (nI i) (nI s) (nI t) := by
  unfold wpX_offencesAgainst
  dsimp only
  have hcl : (nI i).toNatClampNeg = i := nI_clamp (by omega)
  have hin : vp_in (nI i) 64 := vp_in_nI (by omega) (by decide)
  obtain ⟨w, a, b, hw, ha, hb, hab, e1, e2, e3⟩ := ok i hi
  refine ⟨vw_4, hin, vw_4, nm_e ⟨vw_4, hin, vw_4, nm_e ?_⟩⟩
  rw [hcl, e2, e3, vw_c4 (a := s) (by omega), vw_c4 (a := t) (by omega), vw_c4 (a := a) (by omega), vw_c4 (a := b) (by omega)]
  unfold vw_o vw_sur at hp
  rw [e2, e3, vw_c4 (a := s) (by omega), vw_c4 (a := t) (by omega), vw_c4 (a := a) (by omega), vw_c4 (a := b) (by omega)] at hp
  have c1 : nI (b / 4) = nI (t / 4) ↔ b / 4 = t / 4 := nI_eq (by omega) (by omega)
  have c2 : nI (a / 4) ≤ nI (s / 4) ↔ a / 4 ≤ s / 4 := nI_leI (by omega) (by omega)
  have c3 : nI (t / 4) ≤ nI (b / 4) ↔ t / 4 ≤ b / 4 := nI_leI (by omega) (by omega)
  have c4 : nI (s / 4) ≤ nI (a / 4) ↔ s / 4 ≤ a / 4 := nI_leI (by omega) (by omega)
  have c5 : nI (b / 4) ≤ nI (t / 4) ↔ b / 4 ≤ t / 4 := nI_leI (by omega) (by omega)
  have z0 : nI (t / 4) - nI (b / 4) = 0 ↔ t / 4 = b / 4 := vw_s0 (by omega) (by omega)
  have z1 : 0 ≤ nI (t / 4) - nI (b / 4) ↔ b / 4 ≤ t / 4 := vw_sge (by omega) (by omega)
  have z2 : nI (t / 4) - nI (b / 4) ≤ 0 ↔ t / 4 ≤ b / 4 := vw_sle (by omega) (by omega)
  have y1 : 0 ≤ nI (s / 4) - nI (a / 4) ↔ a / 4 ≤ s / 4 := vw_sge (by omega) (by omega)
  have y2 : nI (s / 4) - nI (a / 4) ≤ 0 ↔ s / 4 ≤ a / 4 := vw_sle (by omega) (by omega)
  by_cases h1 : b / 4 = t / 4
  · rw [if_pos (c1.mpr h1)] at hp
    exact br_t (z0.mpr h1.symm) hp
  · rw [if_neg (fun z => h1 (c1.mp z))] at hp
    refine br_f (fun z => h1 (z0.mp z).symm) ?_
    by_cases h2 : a / 4 ≤ s / 4
    · rw [if_neg (fun z => z.1 (c2.mpr h2))] at hp
      refine br_t (y1.mpr h2) ?_
      by_cases h3 : s / 4 ≤ a / 4
      · rw [if_neg (fun z => z.1 (c4.mpr h3))] at hp
        exact br_t (y2.mpr h3) hp
      · refine br_f (fun z => h3 (y2.mp z)) ?_
        by_cases h4 : b / 4 ≤ t / 4
        · rw [if_neg (fun z => z.2 (c5.mpr h4))] at hp
          exact br_t (z1.mpr h4) hp
        · rw [if_pos ⟨fun z => h3 (c4.mp z), fun z => h4 (c5.mp z)⟩] at hp
          exact br_f (fun z => h4 (z1.mp z)) hp
    · refine br_f (fun z => h2 (y1.mp z)) ?_
      by_cases h5 : t / 4 ≤ b / 4
      · have h3 : s / 4 ≤ a / 4 := by omega
        rw [if_neg (fun z => z.2 (c3.mpr h5)), if_neg (fun z => z.1 (c4.mpr h3))] at hp
        exact br_t (z2.mpr h5) (br_t (y2.mpr h3) hp)
      · rw [if_pos ⟨fun z => h2 (c2.mp z), fun z => h5 (c3.mp z)⟩] at hp
        exact br_f (fun z => h5 (z2.mp z)) hp
theorem vw_ooX (post : Int32 → Prop) (n : Nat) (st ofs wh so ta mk : Nat → Int32) (x : Int32) (s t : Nat) (hn : n ≤ 64) (ok : vw_ok n wh so ta) (hs : s < 128) (ht : t < 128) (hp : post (vw_ac wh so ta x (nI s) (nI t) n)) : wpX_offencesOf post (nI n, st, ofs, wh, so, ta, mk) x (nI s) (nI t) := by
  refine ⟨n + 1, ?_⟩
  refine vw_acc n (fun m i r => wX_offencesOf_6 post x (nI s) (nI t) (nI n) st ofs wh so ta mk m r (nI i)) (vw_ac wh so ta x (nI s) (nI t)) ?_ ?_
  · intro m i hlt ih
    have hcl : (nI i).toNatClampNeg = i := nI_clamp (by omega)
    have hin : vp_in (nI i) 64 := vp_in_nI (by omega) (by decide)
    refine br_f (nI_ge hlt (by omega)) ⟨hin, ?_⟩
    rw [hcl]
    by_cases g : wh i = x
    · have es : vw_ac wh so ta x (nI s) (nI t) (i + 1) = vw_ac wh so ta x (nI s) (nI t) i ||| vw_o so ta (nI s) (nI t) i := if_pos g
      refine br_t g ?_
      exact vw_oaX _ n st ofs wh so ta mk i s t hn ok hlt hs ht (nm_r es.symm (nm_r (nI_1 i) ih))
    · have es : vw_ac wh so ta x (nI s) (nI t) (i + 1) = vw_ac wh so ta x (nI s) (nI t) i := if_neg g
      rw [es] at ih
      exact br_f g (nm_r (nI_1 i) ih)
  · intro m
    exact br_t (Int32.le_refl _) hp
theorem vw_hdX (post : Int32 → Prop) (n : Nat) (st ofs wh so ta mk : Nat → Int32) (x s t : Int32) (hn : n ≤ 64) (h1 : (∃ i, i < n ∧ wh i = x ∧ so i = s ∧ ta i = t) → post 1) (h0 : (¬ ∃ i, i < n ∧ wh i = x ∧ so i = s ∧ ta i = t) → post 0) : wpX_isHeld post (nI n, st, ofs, wh, so, ta, mk) x s t := by
  refine ⟨n + 1, ?_⟩
  refine vw_ex n (fun m i => wX_isHeld_3 post x s t (nI n) st ofs wh so ta mk m (nI i)) (fun i => wh i = x ∧ so i = s ∧ ta i = t) (post 1) (post 0) ?_ ?_ h1 h0
  · intro m i hlt hA hB
    have hcl : (nI i).toNatClampNeg = i := nI_clamp (by omega)
    have hin : vp_in (nI i) 64 := vp_in_nI (by omega) (by decide)
    refine br_f (nI_ge hlt (by omega)) ⟨hin, ?_⟩
    rw [hcl]
    by_cases g1 : wh i = x
    · refine br_t g1 ⟨hin, ?_⟩
      by_cases g2 : so i = s
      · refine br_t g2 ⟨hin, ?_⟩
        by_cases g3 : ta i = t
        · exact br_t g3 (hA ⟨g1, g2, g3⟩)
        · exact br_f g3 (nm_r (nI_1 i) (hB fun q => g3 q.2.2))
      · exact br_f g2 (nm_r (nI_1 i) (hB fun q => g2 q.2.1))
    · exact br_f g1 (nm_r (nI_1 i) (hB fun q => g1 q.1))
  · intro m hb
    exact br_t (Int32.le_refl _) hb
theorem vw_hdY (post : Int32 → Prop) (n : Nat) (st wh so ta ju : Nat → Int32) (x s t : Int32) (hn : n ≤ 64) (h1 : (∃ i, i < n ∧ wh i = x ∧ so i = s ∧ ta i = t) → post 1) (h0 : (¬ ∃ i, i < n ∧ wh i = x ∧ so i = s ∧ ta i = t) → post 0) : wpY_held post (nI n, st, wh, so, ta, ju) x s t := by
  refine ⟨n + 1, ?_⟩
  refine vw_ex n (fun m i => wY_held_3 post x s t (nI n) st wh so ta ju m (nI i)) (fun i => wh i = x ∧ so i = s ∧ ta i = t) (post 1) (post 0) ?_ ?_ h1 h0
  · intro m i hlt hA hB
    have hcl : (nI i).toNatClampNeg = i := nI_clamp (by omega)
    have hin : vp_in (nI i) 64 := vp_in_nI (by omega) (by decide)
    refine br_f (nI_ge hlt (by omega)) ⟨hin, ?_⟩
    rw [hcl]
    by_cases g1 : wh i = x
    · refine br_t g1 ⟨hin, ?_⟩
      by_cases g2 : so i = s
      · refine br_t g2 ⟨hin, ?_⟩
        by_cases g3 : ta i = t
        · exact br_t g3 (hA ⟨g1, g2, g3⟩)
        · exact br_f g3 (nm_r (nI_1 i) (hB fun q => g3 q.2.2))
      · exact br_f g2 (nm_r (nI_1 i) (hB fun q => g2 q.2.1))
    · exact br_f g1 (nm_r (nI_1 i) (hB fun q => g1 q.1))
  · intro m hb
    exact br_t (Int32.le_refl _) hb
/-- Y: one held vote, then the loop -/
theorem vw_stY (post : Int32 → SY → Prop) (J : Int32 → Int32 → Prop) (n : Nat) (st wh so ta ju : Nat → Int32) (x s t r : Int32) (i : Nat) (hi : i < n) (hn : n ≤ 64) (hp : J (r ||| vw_o so ta s t i) (nI (i + 1))) : ((ta i / 4 = t / 4 → (∀ y : Int32, y = r ||| 1 → wY_vote_101 post J x s t y (nI i) (nI n) st wh so ta ju)) ∧ (¬ ta i / 4 = t / 4 → wY_vote_101 post J x s t r (nI i) (nI n) st wh so ta ju)) := by
  have hcl : (nI i).toNatClampNeg = i := nI_clamp (by omega)
  have hin : vp_in (nI i) 64 := vp_in_nI (by omega) (by decide)
  have two : ∀ q, (¬ vw_sur (so i) (ta i) s t → J q (nI (i + 1))) → (vw_sur (so i) (ta i) s t → J (q ||| 4) (nI (i + 1))) → wY_vote_129 post J x s t q (nI i) (nI n) st wh so ta ju := by
    intro q a b
    refine ⟨hin, hin, ?_⟩
    rw [hcl]
    refine vw_surY _ _ _ _ _ ?_ ?_
    · intro g
      exact br_f vw_10 (nm_e (nm_r (nI_1 i) (b g)))
    · intro g
      exact br_t rfl (nm_r (nI_1 i) (a g))
  have one : ∀ q, (¬ vw_sur s t (so i) (ta i) → wY_vote_129 post J x s t q (nI i) (nI n) st wh so ta ju) → (vw_sur s t (so i) (ta i) → wY_vote_129 post J x s t (q ||| 2) (nI i) (nI n) st wh so ta ju) → wY_vote_101 post J x s t q (nI i) (nI n) st wh so ta ju := by
    intro q a b
    refine ⟨hin, hin, ?_⟩
    rw [hcl]
    refine vw_surY _ _ _ _ _ ?_ ?_
    · intro g
      exact br_f vw_10 (nm_e (b g))
    · intro g
      exact br_t rfl (a g)
  unfold vw_o at hp
  by_cases h1 : ta i / 4 = t / 4
  · rw [if_pos h1] at hp
    have k1 : ¬ vw_sur s t (so i) (ta i) := fun z => z.2 (by rw [h1]; exact Int32.le_refl _)
    have k2 : ¬ vw_sur (so i) (ta i) s t := fun z => z.2 (by rw [h1]; exact Int32.le_refl _)
    exact br_t h1 (nm_e (one _ (fun _ => two _ (fun _ => hp) fun z => absurd z k2) fun z => absurd z k1))
  · rw [if_neg h1] at hp
    refine br_f h1 ?_
    by_cases h2 : vw_sur s t (so i) (ta i)
    · rw [if_pos h2] at hp
      have k2 : ¬ vw_sur (so i) (ta i) s t := fun z => (Int32.le_total (so i / 4) (s / 4)).elim h2.1 z.1
      exact one _ (fun z => absurd h2 z) fun _ => two _ (fun _ => hp) fun z => absurd z k2
    · rw [if_neg h2] at hp
      refine one _ (fun _ => ?_) fun z => absurd z h2
      by_cases h3 : vw_sur (so i) (ta i) s t
      · rw [if_pos h3] at hp
        exact two _ (fun z => absurd h3 z) fun _ => hp
      · rw [if_neg h3, Int32.or_zero] at hp
        exact two _ (fun _ => hp) fun z => absurd z h3
theorem vw_vlY (post : Int32 → SY → Prop) (n : Nat) (st wh so ta ju : Nat → Int32) (x s t : Int32) (hn : n < 64) (hp : post (vw_ac wh so ta x s t n) (nI (n + 1), st, upd wh n x, upd so n s, upd ta n t, ju)) : ∃ m, wY_vote_60 post x s t (nI n) st wh so ta ju m 0 0 := by
  refine ⟨n + 1, ?_⟩
  refine vw_acc n (fun m i r => wY_vote_60 post x s t (nI n) st wh so ta ju m r (nI i)) (vw_ac wh so ta x s t) ?_ ?_
  · intro m i hlt ih
    have hcl : (nI i).toNatClampNeg = i := nI_clamp (by omega)
    have hin : vp_in (nI i) 64 := vp_in_nI (by omega) (by decide)
    refine br_f (nI_ge hlt (by omega)) ⟨hin, ?_⟩
    rw [hcl]
    by_cases g : wh i = x
    · have es : vw_ac wh so ta x s t (i + 1) = vw_ac wh so ta x s t i ||| vw_o so ta s t i := if_pos g
      rw [es] at ih
      exact br_t g ⟨hin, vw_4, vw_4, vw_stY post _ n st wh so ta ju x s t _ i hlt (by omega) ih⟩
    · have es : vw_ac wh so ta x s t (i + 1) = vw_ac wh so ta x s t i := if_neg g
      rw [es] at ih
      exact br_f g (nm_r (nI_1 i) ih)
  · intro m
    have hcl : (nI n).toNatClampNeg = n := nI_clamp (by omega)
    have hin : vp_in (nI n) 64 := vp_in_nI hn (by decide)
    refine br_t (Int32.le_refl _) ?_
    rw [hcl]
    exact ⟨hin, nm_e ⟨hin, nm_e ⟨hin, nm_e (nm_r (nI_1 n) hp)⟩⟩⟩
