theorem i_vc_justified {k : Nat} {u : SX} {v : SY} (I : i_Rel k u v) (hk : k + 4 ≤ 2048) (v1 : Int32) : wpX_justified (fun r u' => wpY_justified (fun r' v' => r' = r ∧ i_Rel (k + 4) u' v') v v1) u v1 := by
  obtain ⟨n, st, ofs, wh, so, ta, mk, ju, rfl, rfl, hn, ok, hof⟩ := I
  have R : ∀ g h : Nat → Int32, i_Rel (k + 4) (nI n, st, ofs, wh, so, ta, g) (nI n, st, wh, so, ta, h) := fun g h => ⟨n, st, ofs, wh, so, ta, g, h, rfl, rfl, hn, ok, hof⟩
  unfold wpX_justified
  dsimp only
  rcases vw_ck v1 with ⟨j, hj, rfl, hX, hY⟩ | ⟨hX, hY⟩
  · have hcl : (nI j).toNatClampNeg = j := nI_clamp (by omega)
    have hin : vp_in (nI j) 128 := vp_in_nI hj (by decide)
    refine hX _ (br_f vw_10 ?_)
    refine vw_mjX _ n st ofs wh so ta mk hn ok ?_
    intro g hg
    refine ⟨hin, ?_⟩
    rw [hcl]
    have walk : ∀ r : Int32, (r = if g j = 0 then 0 else 1) → wpY_justified (fun r' v' => r' = r ∧ i_Rel (k + 4) (nI n, st, ofs, wh, so, ta, g) v') (nI n, st, wh, so, ta, ju) (nI j) := by
      intro r hr
      unfold wpY_justified
      dsimp only
      refine hY _ (br_t rfl ?_)
      refine vw_mjY _ n st wh so ta ju hn ok ?_
      intro h hh
      have e := vw_uniq ok hg hh j hj
      refine ⟨hin, ?_⟩
      rw [hcl]
      by_cases z : g j = 0
      · exact br_t (e.mp z) ⟨by rw [hr, if_pos z], R g h⟩
      · exact br_f (fun y => z (e.mpr y)) ⟨by rw [hr, if_neg z], R g h⟩
    by_cases z : g j = 0
    · exact br_t z (walk 0 (if_pos z).symm)
    · exact br_f z (walk 1 (if_neg z).symm)
  · refine hX _ (br_t rfl ?_)
    unfold wpY_justified
    dsimp only
    exact hY _ (br_f vw_10 ⟨rfl, R mk ju⟩)
/-- isFinal -/
theorem vw_hnX (post : Int32 → Prop) (n : Nat) (st ofs wh so ta mk : Nat → Int32) (x : Int32) (hn : n ≤ 64) (ok : vw_ok n wh so ta) (h1 : (∃ i, i < n ∧ so i = x ∧ ta i / 4 = x / 4 + 1 ∧ vw_S n st wh so ta x (ta i)) → post 1) (h0 : (¬ ∃ i, i < n ∧ so i = x ∧ ta i / 4 = x / 4 + 1 ∧ vw_S n st wh so ta x (ta i)) → post 0) : wpX_hasSupportedNext post (nI n, st, ofs, wh, so, ta, mk) x := by
  unfold wpX_hasSupportedNext
  dsimp only
  refine ⟨vw_4, nm_e ⟨n + 1, ?_⟩⟩
  refine vw_ex n (fun m i => wX_hasSupportedNext_9 post x (x / 4 + 1) (nI n) st ofs wh so ta mk m (nI i)) (fun i => so i = x ∧ ta i / 4 = x / 4 + 1 ∧ vw_S n st wh so ta x (ta i)) (post 1) (post 0) ?_ ?_ h1 h0
  · intro m i hlt hA hB
    have hcl : (nI i).toNatClampNeg = i := nI_clamp (by omega)
    have hin : vp_in (nI i) 64 := vp_in_nI (by omega) (by decide)
    refine br_f (nI_ge hlt (by omega)) ⟨hin, ?_⟩
    rw [hcl]
    by_cases g1 : so i = x
    · refine br_t g1 ⟨hin, vw_4, ?_⟩
      by_cases g2 : ta i / 4 = x / 4 + 1
      · refine br_t g2 ⟨hin, ?_⟩
        refine vw_suX _ n st ofs wh so ta mk x (ta i) hn ok ?_ ?_
        · intro g3
          exact br_f vw_10 (hA ⟨g1, g2, g3⟩)
        · intro g3
          exact br_t rfl (nm_r (nI_1 i) (hB fun q => g3 q.2.2))
      · exact br_f g2 (nm_r (nI_1 i) (hB fun q => g2 q.2.1))
    · exact br_f g1 (nm_r (nI_1 i) (hB fun q => g1 q.1))
  · intro m hb
    exact br_t (Int32.le_refl _) hb
theorem vw_finY (post : Int32 → SY → Prop) (n : Nat) (st wh so ta h : Nat → Int32) (j : Nat) (hj : j < 128) (hn : n ≤ 64) (ok : vw_ok n wh so ta) (h1 : (∃ i, i < n ∧ so i = nI j ∧ ta i / 4 = nI j / 4 + 1 ∧ ¬ h j = 0 ∧ vw_S n st wh so ta (nI j) (ta i)) → post 1 (nI n, st, wh, so, ta, h)) (h0 : (¬ ∃ i, i < n ∧ so i = nI j ∧ ta i / 4 = nI j / 4 + 1 ∧ ¬ h j = 0 ∧ vw_S n st wh so ta (nI j) (ta i)) → post 0 (nI n, st, wh, so, ta, h)) : ∃ m, wY_isFinal_15 post (nI j) (nI n) st wh so ta h m 0 := by
  refine ⟨n + 1, ?_⟩
  refine vw_ex n (fun m i => wY_isFinal_15 post (nI j) (nI n) st wh so ta h m (nI i)) (fun i => so i = nI j ∧ ta i / 4 = nI j / 4 + 1 ∧ ¬ h j = 0 ∧ vw_S n st wh so ta (nI j) (ta i)) (post 1 (nI n, st, wh, so, ta, h)) (post 0 (nI n, st, wh, so, ta, h)) ?_ ?_ h1 h0
  · intro m i hlt hA hB
    have hcl : (nI i).toNatClampNeg = i := nI_clamp (by omega)
    have hclj : (nI j).toNatClampNeg = j := nI_clamp (by omega)
    have hin : vp_in (nI i) 64 := vp_in_nI (by omega) (by decide)
    refine br_f (nI_ge hlt (by omega)) ⟨hin, ?_⟩
    rw [hcl]
    by_cases g1 : so i = nI j
    · refine br_t g1 ⟨hin, vw_4, vw_4, ?_⟩
      by_cases g2 : ta i / 4 = nI j / 4 + 1
      · refine br_t g2 (br_f vw_10 ⟨vp_in_nI hj (by decide), ?_⟩)
        rw [hclj, hcl]
        by_cases g3 : h j = 0
        · exact br_t g3 (nm_r (nI_1 i) (hB fun q => q.2.2.1 g3))
        · refine br_f g3 ⟨hin, ?_⟩
          refine vw_suY _ n st wh so ta h (nI j) (ta i) hn ok ?_ ?_
          · intro g4
            exact br_f vw_10 (hA ⟨g1, g2, g3, g4⟩)
          · intro g4
            exact br_t rfl (nm_r (nI_1 i) (hB fun q => g4 q.2.2.2))
      · exact br_f g2 (br_t rfl (nm_r (nI_1 i) (hB fun q => g2 q.2.1)))
    · exact br_f g1 (br_t rfl (nm_r (nI_1 i) (hB fun q => g1 q.1)))
  · intro m hb
    exact br_t (Int32.le_refl _) hb
theorem i_vc_isFinal {k : Nat} {u : SX} {v : SY} (I : i_Rel k u v) (hk : k + 4 ≤ 2048) (v1 : Int32) : wpX_isFinal (fun r u' => wpY_isFinal (fun r' v' => r' = r ∧ i_Rel (k + 4) u' v') v v1) u v1 := by
  obtain ⟨n, st, ofs, wh, so, ta, mk, ju, rfl, rfl, hn, ok, hof⟩ := I
  have R : ∀ g h : Nat → Int32, i_Rel (k + 4) (nI n, st, ofs, wh, so, ta, g) (nI n, st, wh, so, ta, h) := fun g h => ⟨n, st, ofs, wh, so, ta, g, h, rfl, rfl, hn, ok, hof⟩
  unfold wpX_isFinal
  dsimp only
  rcases vw_ck v1 with ⟨j, hj, rfl, hX, hY⟩ | ⟨hX, hY⟩
  · have hcl : (nI j).toNatClampNeg = j := nI_clamp (by omega)
    have hin : vp_in (nI j) 128 := vp_in_nI hj (by decide)
    refine hX _ (br_f vw_10 ?_)
    refine vw_mjX _ n st ofs wh so ta mk hn ok ?_
    intro g hg
    refine ⟨hin, ?_⟩
    rw [hcl]
    have walk : ∀ r : Int32, ((∃ i, i < n ∧ so i = nI j ∧ ta i / 4 = nI j / 4 + 1 ∧ ¬ g j = 0 ∧ vw_S n st wh so ta (nI j) (ta i)) → r = 1) → ((¬ ∃ i, i < n ∧ so i = nI j ∧ ta i / 4 = nI j / 4 + 1 ∧ ¬ g j = 0 ∧ vw_S n st wh so ta (nI j) (ta i)) → r = 0) → wpY_isFinal (fun r' v' => r' = r ∧ i_Rel (k + 4) (nI n, st, ofs, wh, so, ta, g) v') (nI n, st, wh, so, ta, ju) (nI j) := by
      intro r r1 r0
      unfold wpY_isFinal
      dsimp only
      refine hY _ (br_t rfl ?_)
      refine vw_mjY _ n st wh so ta ju hn ok ?_
      intro h hh
      have e := vw_uniq ok hg hh j hj
      refine vw_finY _ n st wh so ta h j hj hn ok ?_ ?_
      · rintro ⟨i, a1, a2, a3, a4, a5⟩
        exact ⟨(r1 ⟨i, a1, a2, a3, fun z => a4 (e.mp z), a5⟩).symm, R g h⟩
      · intro q
        exact ⟨(r0 fun ⟨i, a1, a2, a3, a4, a5⟩ => q ⟨i, a1, a2, a3, fun z => a4 (e.mpr z), a5⟩).symm, R g h⟩
    by_cases z : g j = 0
    · exact br_t z (walk 0 (fun ⟨i, a1, a2, a3, a4, a5⟩ => absurd z a4) fun _ => rfl)
    · refine br_f z ?_
      refine vw_hnX _ n st ofs wh so ta g (nI j) hn ok ?_ ?_
      · rintro ⟨i, a1, a2, a3, a4⟩
        exact br_f vw_10 (walk 1 (fun _ => rfl) fun q => absurd ⟨i, a1, a2, a3, z, a4⟩ q)
      · intro q
        exact br_t rfl (walk 0 (fun ⟨i, a1, a2, a3, a4, a5⟩ => absurd ⟨i, a1, a2, a3, a5⟩ q) fun _ => rfl)
  · refine hX _ (br_t rfl ?_)
    unfold wpY_isFinal
    dsimp only
    exact hY _ (br_f vw_10 ⟨rfl, R mk ju⟩)
/-- highest -/
def vw_hi (g : Nat → Int32) : Nat → Int32
  | 0 => 0
  | n + 1 => if g n = 0 then vw_hi g n else nI n
theorem vw_hiE {g h : Nat → Int32} : ∀ n, (∀ c, c < n → (g c = 0 ↔ h c = 0)) → vw_hi g n = vw_hi h n := by
  intro n
  induction n with
  | zero => intro _; rfl
  | succ n ih =>
    intro e
    show (if g n = 0 then vw_hi g n else nI n) = if h n = 0 then vw_hi h n else nI n
    rw [ih fun c hc => e c (by omega)]
    by_cases z : g n = 0
    · rw [if_pos z, if_pos ((e n (by omega)).mp z)]
    · rw [if_neg z, if_neg fun y => z ((e n (by omega)).mpr y)]
theorem vw_hiX (post : Int32 → SX → Prop) (n : Nat) (st ofs wh so ta g : Nat → Int32) (hp : post (vw_hi g 128) (nI n, st, ofs, wh, so, ta, g)) : ∃ m, wX_highest_8 post (nI n) st ofs wh so ta g m 0 0 := by
  refine ⟨128 + 1, ?_⟩
  refine vw_acc 128 (fun m i s => wX_highest_8 post (nI n) st ofs wh so ta g m s (nI i)) (vw_hi g) ?_ ?_
  · intro m i hlt ih
    have hcl : (nI i).toNatClampNeg = i := nI_clamp (by omega)
    refine br_f (nI_ge (b := 128) hlt (by decide)) ⟨vp_in_nI hlt (by decide), ?_⟩
    rw [hcl]
    by_cases z : g i = 0
    · have es : vw_hi g (i + 1) = vw_hi g i := if_pos z
      rw [es] at ih
      exact br_t z (nm_r (nI_1 i) ih)
    · have es : vw_hi g (i + 1) = nI i := if_neg z
      rw [es] at ih
      exact br_f z (nm_r (nI_1 i) ih)
  · intro m
    exact br_t (by decide) hp
theorem vw_hiY (post : Int32 → SY → Prop) (n : Nat) (st wh so ta g : Nat → Int32) (hp : post (vw_hi g 128) (nI n, st, wh, so, ta, g)) : ∃ m, wY_highest_8 post (nI n) st wh so ta g m 0 0 := by
  refine ⟨128 + 1, ?_⟩
  refine vw_acc 128 (fun m i s => wY_highest_8 post (nI n) st wh so ta g m s (nI i)) (vw_hi g) ?_ ?_
  · intro m i hlt ih
    have hcl : (nI i).toNatClampNeg = i := nI_clamp (by omega)
    refine br_f (nI_ge (b := 128) hlt (by decide)) ⟨vp_in_nI hlt (by decide), ?_⟩
    rw [hcl]
    by_cases z : g i = 0
    · have es : vw_hi g (i + 1) = vw_hi g i := if_pos z
      rw [es] at ih
      exact br_t z (nm_r (nI_1 i) ih)
    · have es : vw_hi g (i + 1) = nI i := if_neg z
      rw [es] at ih
      exact br_f z (nm_r (nI_1 i) ih)
  · intro m
    exact br_t (by decide) hp
theorem i_vc_highest {k : Nat} {u : SX} {v : SY} (I : i_Rel k u v) (hk : k + 4 ≤ 2048) : wpX_highest (fun r u' => wpY_highest (fun r' v' => r' = r ∧ i_Rel (k + 4) u' v') v) u := by
  obtain ⟨n, st, ofs, wh, so, ta, mk, ju, rfl, rfl, hn, ok, hof⟩ := I
  have R : ∀ g h : Nat → Int32, i_Rel (k + 4) (nI n, st, ofs, wh, so, ta, g) (nI n, st, wh, so, ta, h) := fun g h => ⟨n, st, ofs, wh, so, ta, g, h, rfl, rfl, hn, ok, hof⟩
  unfold wpX_highest
  dsimp only
  refine vw_mjX _ n st ofs wh so ta mk hn ok ?_
  intro g hg
  refine vw_hiX _ n st ofs wh so ta g ?_
  unfold wpY_highest
  dsimp only
  refine vw_mjY _ n st wh so ta ju hn ok ?_
  intro h hh
  refine vw_hiY _ n st wh so ta h ?_
  exact ⟨(vw_hiE 128 (vw_uniq ok hg hh)).symm, R g h⟩
/-- justifiedIn -/
def vw_ji (g : Nat → Int32) (e : Nat) : Nat → Int32
  | 0 => 0
  | n + 1 => if g (e * 4 + n) = 0 then vw_ji g e n else vw_ji g e n + 1
theorem vw_jiE {g h : Nat → Int32} (e : Nat) (he : e < 32) (hu : ∀ c, c < 128 → (g c = 0 ↔ h c = 0)) : ∀ n, n ≤ 3 → vw_ji g e n = vw_ji h e n := by
  intro n
  induction n with
  | zero => intro _; rfl
  | succ n ih =>
    intro hn
    show (if g (e * 4 + n) = 0 then vw_ji g e n else vw_ji g e n + 1) = if h (e * 4 + n) = 0 then vw_ji h e n else vw_ji h e n + 1
    rw [ih (by omega)]
    have q := hu (e * 4 + n) (by omega)
    by_cases z : g (e * 4 + n) = 0
    · rw [if_pos z, if_pos (q.mp z)]
    · rw [if_neg z, if_neg fun y => z (q.mpr y)]
theorem vw_ixX (e i : Nat) : nI e * 4 + nI i = nI (e * 4 + i) := by
  rw [show (4 : Int32) = nI 4 from rfl, pk_mul, nI_add]
theorem vw_ixY (e i : Nat) : 4 * nI e + nI i = nI (e * 4 + i) := by
  rw [show (4 : Int32) = nI 4 from rfl, pk_mul, nI_add, Nat.mul_comm]
theorem vw_jiX (post : Int32 → SX → Prop) (n : Nat) (st ofs wh so ta g : Nat → Int32) (e : Nat) (he : e < 32) (hp : post (vw_ji g e 3) (nI n, st, ofs, wh, so, ta, g)) : ∃ m, wX_justifiedIn_20 post (nI e) (nI n) st ofs wh so ta g m 0 0 := by
  refine ⟨3 + 1, ?_⟩
  refine vw_acc 3 (fun m i s => wX_justifiedIn_20 post (nI e) (nI n) st ofs wh so ta g m s (nI i)) (vw_ji g e) ?_ ?_
  · intro m i hlt ih
    have hcl : (nI (e * 4 + i)).toNatClampNeg = e * 4 + i := nI_clamp (by omega)
    refine br_f (nI_ge (b := 3) hlt (by decide)) ?_
    rw [vw_ixX, hcl]
    refine ⟨vp_in_nI (by omega) (by decide), ?_⟩
    by_cases z : g (e * 4 + i) = 0
    · have es : vw_ji g e (i + 1) = vw_ji g e i := if_pos z
      rw [es] at ih
      exact br_t z (nm_r (nI_1 i) ih)
    · have es : vw_ji g e (i + 1) = vw_ji g e i + 1 := if_neg z
      exact br_f z (nm_r es.symm (nm_r (nI_1 i) ih))
  · intro m
    exact br_t (by decide) hp
theorem vw_jiY (post : Int32 → SY → Prop) (n : Nat) (st wh so ta g : Nat → Int32) (e : Nat) (he : e < 32) (hp : post (vw_ji g e 3) (nI n, st, wh, so, ta, g)) : ∃ m, wY_justifiedIn_20 post (nI e) (nI n) st wh so ta g m 0 0 := by
  refine ⟨3 + 1, ?_⟩
  refine vw_acc 3 (fun m i s => wY_justifiedIn_20 post (nI e) (nI n) st wh so ta g m s (nI i)) (vw_ji g e) ?_ ?_
  · intro m i hlt ih
    have hcl : (nI (e * 4 + i)).toNatClampNeg = e * 4 + i := nI_clamp (by omega)
    refine br_f (nI_ge (b := 3) hlt (by decide)) ?_
    rw [vw_ixY, hcl]
    refine ⟨vp_in_nI (by omega) (by decide), ?_⟩
    by_cases z : g (e * 4 + i) = 0
    · have es : vw_ji g e (i + 1) = vw_ji g e i := if_pos z
      rw [es] at ih
      exact br_t z (nm_r (nI_1 i) ih)
    · have es : vw_ji g e (i + 1) = vw_ji g e i + 1 := if_neg z
      exact br_f z (nm_r es.symm (nm_r (nI_1 i) ih))
  · intro m
    exact br_t (by decide) hp
theorem i_vc_justifiedIn {k : Nat} {u : SX} {v : SY} (I : i_Rel k u v) (hk : k + 4 ≤ 2048) (v1 : Int32) : wpX_justifiedIn (fun r u' => wpY_justifiedIn (fun r' v' => r' = r ∧ i_Rel (k + 4) u' v') v v1) u v1 := by
  obtain ⟨n, st, ofs, wh, so, ta, mk, ju, rfl, rfl, hn, ok, hof⟩ := I
  have R : ∀ g h : Nat → Int32, i_Rel (k + 4) (nI n, st, ofs, wh, so, ta, g) (nI n, st, wh, so, ta, h) := fun g h => ⟨n, st, ofs, wh, so, ta, g, h, rfl, rfl, hn, ok, hof⟩
  unfold wpX_justifiedIn
  dsimp only
  rcases pk_ix v1 (n := 32) (by decide) with h | h | ⟨e, he, rfl⟩
  · refine br_t h ?_
    unfold wpY_justifiedIn
    dsimp only
    exact br_t h ⟨rfl, R mk ju⟩
  · have hn' : ¬ v1 < 0 := vw_nneg (by decide) h
    have h31 : ¬ v1 ≤ 31 := fun z => absurd (Int32.le_trans h z) (by decide)
    refine br_f hn' (br_f (Int32.not_lt.mpr h) ?_)
    unfold wpY_justifiedIn
    dsimp only
    exact br_f hn' (br_f h31 ⟨rfl, R mk ju⟩)
  · have hn' : ¬ nI e < 0 := nI_pos (by omega)
    have h31 : nI e ≤ 31 := nI_le (b := 31) (by omega) (by decide)
    have h32 : nI e < 32 := nI_lt (b := 32) he (by decide)
    refine br_f hn' (br_t h32 ?_)
    refine vw_mjX _ n st ofs wh so ta mk hn ok ?_
    intro g hg
    refine vw_jiX _ n st ofs wh so ta g e he ?_
    unfold wpY_justifiedIn
    dsimp only
    refine br_f hn' (br_t h31 ?_)
    refine vw_mjY _ n st wh so ta ju hn ok ?_
    intro h hh
    refine vw_jiY _ n st wh so ta h e he ?_
    exact ⟨(vw_jiE e he (vw_uniq ok hg hh) 3 (Nat.le_refl _)).symm, R g h⟩
