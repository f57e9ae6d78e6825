/-- the constructors -/
def vw_st0 : Nat → (Nat → Int32)
  | 0 => fun _ => 0
  | n + 1 => upd (vw_st0 n) n 1
theorem i_vc0 : wpX_init (fun u => wpY_init (fun v => i_Rel 0 u v)) := by
  refine ⟨8 + 1, ?_⟩
  refine vw_acc 8 (fun m i s => wX_init_60 (fun u => wpY_init (fun v => i_Rel 0 u v)) 0 m (nI i) s (fun _ => 0) (fun _ => 0) (fun _ => 0) (fun _ => 0) (fun _ => 0)) vw_st0 ?_ ?_
  · intro m i hlt ih
    have hcl : (nI i).toNatClampNeg = i := nI_clamp (by omega)
    refine br_f (nI_ge (b := 8) hlt (by decide)) ⟨vp_in_nI hlt (by decide), ?_⟩
    rw [hcl]
    exact nm_r (e' := vw_st0 (i + 1)) rfl (nm_r (nI_1 i) ih)
  · intro m
    refine br_t (by decide) ?_
    refine ⟨8 + 1, ?_⟩
    refine vw_acc 8 (fun m i s => wY_init_47 (fun v => i_Rel 0 (0, vw_st0 8, (fun _ => 0), (fun _ => 0), (fun _ => 0), (fun _ => 0), (fun _ => 0)) v) 0 m (nI i) s (fun _ => 0) (fun _ => 0) (fun _ => 0) (fun _ => 0)) vw_st0 ?_ ?_
    · intro m i hlt ih
      have hcl : (nI i).toNatClampNeg = i := nI_clamp (by omega)
      refine br_f (nI_ge (b := 8) hlt (by decide)) ⟨vp_in_nI hlt (by decide), ?_⟩
      rw [hcl]
      exact nm_r (e' := vw_st0 (i + 1)) rfl (nm_r (nI_1 i) ih)
    · intro m
      refine br_t (by decide) ?_
      refine ⟨0, vw_st0 8, (fun _ => 0), (fun _ => 0), (fun _ => 0), (fun _ => 0), (fun _ => 0), (fun _ => 0), rfl, rfl, by omega, fun i hi => absurd hi (by omega), ?_⟩
      intro x _
      refine ⟨fun _ => ?_, fun _ => rfl⟩
      rintro ⟨i, j, hi, _⟩
      omega
/-- stake -/
theorem vw_wsX (post : Int32 → Prop) (p : Int32) : ∃ r : Int32, (post r → wpX_withinStakes post p) ∧ (∀ A B C : Prop, (r = p → A) → (r = 100 → B) → (r = 0 → C) → ((0 ≤ p → ((p ≤ 100 → A) ∧ (¬ p ≤ 100 → B))) ∧ (¬ 0 ≤ p → C))) := by
  by_cases h0 : 0 ≤ p
  · by_cases h1 : p ≤ 100
    · exact ⟨p, fun hp => br_t h0 (br_t h1 hp), fun A B C a b c => br_t h0 (br_t h1 (a rfl))⟩
    · exact ⟨100, fun hp => br_t h0 (br_f h1 hp), fun A B C a b c => br_t h0 (br_f h1 (b rfl))⟩
  · exact ⟨0, fun hp => br_f h0 hp, fun A B C a b c => br_f h0 (c rfl)⟩
theorem i_vc_stake {k : Nat} {u : SX} {v : SY} (I : i_Rel k u v) (hk : k + 4 ≤ 2048) (v1 : Int32) (v2 : Int32) : wpX_stake (fun r u' => wpY_stake (fun r' v' => r' = r ∧ i_Rel (k + 4) u' v') v v1 v2) u v1 v2 := by
  obtain ⟨n, st, ofs, wh, so, ta, mk, ju, rfl, rfl, hn, ok, hof⟩ := I
  unfold wpX_stake
  dsimp only
  rcases vw_val v1 with ⟨j, hj, rfl, hX, hY⟩ | ⟨hX, hY⟩
  · have hin : vp_in (nI j) 8 := vp_in_nI hj (by decide)
    refine hX _ (br_f vw_10 ⟨hin, nm_e ?_⟩)
    obtain ⟨r, h1, h2⟩ := vw_wsX (fun r_5 => (vp_in (nI j) 8 ∧ ∀ a_stakes_7 : Nat → Int32, a_stakes_7 = upd st (nI j).toNatClampNeg r_5 → wpY_stake (fun r' v' => r' = st (nI j).toNatClampNeg ∧ i_Rel (k + 4) (nI n, a_stakes_7, ofs, wh, so, ta, mk) v') (nI n, st, wh, so, ta, ju) (nI j) v2)) v2
    refine h1 ⟨hin, nm_e ?_⟩
    unfold wpY_stake
    dsimp only
    have fin : ∀ a, a = upd st (nI j).toNatClampNeg r → i_Rel (k + 4) (nI n, upd st (nI j).toNatClampNeg r, ofs, wh, so, ta, mk) (nI n, a, wh, so, ta, ju) := by
      intro a ha
      rw [ha]
      exact ⟨n, _, ofs, wh, so, ta, mk, ju, rfl, rfl, hn, ok, hof⟩
    refine hY _ (br_t rfl ⟨hin, nm_e ?_⟩)
    refine h2 _ _ _ ?_ ?_ ?_
    · intro e
      exact ⟨hin, fun a ha => ⟨rfl, fin a (by rw [e]; exact ha)⟩⟩
    · intro e
      exact ⟨hin, fun a ha => ⟨rfl, fin a (by rw [e]; exact ha)⟩⟩
    · intro e
      exact ⟨hin, fun a ha => ⟨rfl, fin a (by rw [e]; exact ha)⟩⟩
  · refine hX _ (br_t rfl ?_)
    unfold wpY_stake
    dsimp only
    exact hY _ (br_f vw_10 ⟨rfl, n, st, ofs, wh, so, ta, mk, ju, rfl, rfl, hn, ok, hof⟩)
/-- offender, offended -/
theorem vw_surY (post : Int32 → Prop) (p0 p1 p2 p3 : Int32) (h1 : vw_sur p0 p1 p2 p3 → post 1) (h0 : ¬ vw_sur p0 p1 p2 p3 → post 0) : wpY_surrounds post p0 p1 p2 p3 :=
  ⟨vw_4, vw_4, br_c (fun z => h0 fun y => y.1 z) fun z => ⟨vw_4, vw_4, br_c (fun z' => h0 fun y => y.2 z') fun z' => h1 ⟨z, z'⟩⟩⟩
theorem vw_ofinY (post : Int32 → Prop) (J : Int32 → Prop) (n : Nat) (st wh so ta ju : Nat → Int32) (x : Int32) (i : Nat) (hn : n ≤ 64) (hi : i < n) (h1 : (∃ j, j < n ∧ i ≠ j ∧ wh i = x ∧ wh j = x ∧ vw_bad2 so ta i j) → post 1) (h0 : (¬ ∃ j, j < n ∧ i ≠ j ∧ wh i = x ∧ wh j = x ∧ vw_bad2 so ta i j) → J (nI (i + 1))) : ∃ m, wY_offender_21 post J x (nI i) (nI n) st wh so ta ju m 0 := by
  refine ⟨n + 1, ?_⟩
  refine vw_ex n (fun m j => wY_offender_21 post J x (nI i) (nI n) st wh so ta ju m (nI j)) (fun j => i ≠ j ∧ wh i = x ∧ wh j = x ∧ vw_bad2 so ta i j) (post 1) (J (nI (i + 1))) ?_ ?_ h1 h0
  · intro m j hlt hA hB
    have hcli : (nI i).toNatClampNeg = i := nI_clamp (by omega)
    have hclj : (nI j).toNatClampNeg = j := nI_clamp (by omega)
    have hini : vp_in (nI i) 64 := vp_in_nI (by omega) (by decide)
    have hinj : vp_in (nI j) 64 := vp_in_nI (by omega) (by decide)
    refine br_f (nI_ge hlt (by omega)) ?_
    by_cases e : i = j
    · exact br_t (by rw [e]) (br_t rfl (nm_r (nI_1 j) (hB fun q => q.1 e)))
    · refine br_f (fun z => e ((nI_eq (by omega) (by omega)).mp z)) ⟨hini, ?_⟩
      rw [hcli]
      by_cases g1 : wh i = x
      · refine br_t g1 ⟨hinj, ?_⟩
        rw [hclj]
        by_cases g2 : wh j = x
        · refine br_t g2 (br_f vw_10 ⟨hini, vw_4, hinj, vw_4, ?_⟩)
          rw [hcli, hclj]
          by_cases g3 : ta i / 4 = ta j / 4
          · exact br_t g3 (hA ⟨e, g1, g2, Or.inl g3⟩)
          · refine br_f g3 ⟨hini, hini, hinj, hinj, ?_⟩
            refine vw_surY _ _ _ _ _ ?_ ?_
            · intro g4
              exact br_f vw_10 (hA ⟨e, g1, g2, Or.inr g4⟩)
            · intro g4
              exact br_t rfl (nm_r (nI_1 j) (hB fun q => q.2.2.2.elim g3 g4))
        · exact br_f g2 (br_t rfl (nm_r (nI_1 j) (hB fun q => g2 q.2.2.1)))
      · exact br_f g1 (br_t rfl (nm_r (nI_1 j) (hB fun q => g1 q.2.1)))
  · intro m hb
    exact br_t (Int32.le_refl _) (nm_r (nI_1 i) hb)
theorem vw_offY (post : Int32 → Prop) (n : Nat) (st wh so ta ju : Nat → Int32) (x : Nat) (hx : x < 8) (hn : n ≤ 64) (h1 : vw_Off n wh so ta (nI x) → post 1) (h0 : ¬ vw_Off n wh so ta (nI x) → post 0) : wpY_offender post (nI n, st, wh, so, ta, ju) (nI x) := by
  unfold wpY_offender
  dsimp only
  have h7 : nI x ≤ 7 := nI_le (b := 7) (by omega) (by decide)
  refine br_f (nI_pos (by omega)) (br_t h7 (br_t rfl ⟨n + 1, ?_⟩))
  refine vw_ex n (fun m i => wY_offender_11 post (nI x) (nI n) st wh so ta ju m (nI i)) (fun i => ∃ j, j < n ∧ i ≠ j ∧ wh i = nI x ∧ wh j = nI x ∧ vw_bad2 so ta i j) (post 1) (post 0) ?_ ?_ ?_ ?_
  · intro m i hlt hA hB
    refine br_f (nI_ge hlt (by omega)) ?_
    exact vw_ofinY post _ n st wh so ta ju (nI x) i hn hlt hA hB
  · intro m hb
    exact br_t (Int32.le_refl _) hb
  · rintro ⟨i, hi, j, hj, q⟩
    exact h1 ⟨i, j, hi, hj, q⟩
  · intro z
    exact h0 fun ⟨i, j, hi, hj, q⟩ => z ⟨i, hi, j, hj, q⟩
theorem i_vc_offender {k : Nat} {u : SX} {v : SY} (I : i_Rel k u v) (hk : k + 4 ≤ 2048) (v1 : Int32) : wpX_offender (fun r => wpY_offender (fun r' => r' = r ∧ i_Rel (k + 4) u v) v v1) u v1 := by
  have I' : i_Rel (k + 4) u v := I
  obtain ⟨n, st, ofs, wh, so, ta, mk, ju, rfl, rfl, hn, ok, hof⟩ := I
  unfold wpX_offender
  dsimp only
  rcases vw_val v1 with ⟨j, hj, rfl, hX, hY⟩ | ⟨hX, hY⟩
  · have hcl : (nI j).toNatClampNeg = j := nI_clamp (by omega)
    refine hX _ (br_f vw_10 ⟨vp_in_nI hj (by decide), ?_⟩)
    rw [hcl]
    by_cases g : ofs j = 0
    · refine br_t g ?_
      exact vw_offY _ n st wh so ta ju j hj hn (fun z => absurd z ((hof j hj).mp g)) fun _ => ⟨rfl, I'⟩
    · refine br_f g ?_
      exact vw_offY _ n st wh so ta ju j hj hn (fun _ => ⟨rfl, I'⟩) fun z => absurd ((hof j hj).mpr z) g
  · refine hX _ (br_t rfl ?_)
    unfold wpY_offender
    dsimp only
    exact hY _ (br_f vw_10 ⟨rfl, I'⟩)
def vw_od (ofs st : Nat → Int32) : Nat → Int32
  | 0 => 0
  | n + 1 => if ofs n = 0 then vw_od ofs st n else vw_od ofs st n + st n
theorem i_vc_offended {k : Nat} {u : SX} {v : SY} (I : i_Rel k u v) (hk : k + 4 ≤ 2048) : wpX_offended (fun r => wpY_offended (fun r' => r' = r ∧ i_Rel (k + 4) u v) v) u := by
  have I' : i_Rel (k + 4) u v := I
  obtain ⟨n, st, ofs, wh, so, ta, mk, ju, rfl, rfl, hn, ok, hof⟩ := I
  unfold wpX_offended
  dsimp only
  refine ⟨8 + 1, ?_⟩
  refine vw_acc 8 (fun m i s => wX_offended_4 (fun r => wpY_offended (fun r' => r' = r ∧ i_Rel (k + 4) (nI n, st, ofs, wh, so, ta, mk) (nI n, st, wh, so, ta, ju)) (nI n, st, wh, so, ta, ju)) (nI n) st ofs wh so ta mk m s (nI i)) (vw_od ofs st) ?_ ?_
  · intro m i hlt ih
    have hcl : (nI i).toNatClampNeg = i := nI_clamp (by omega)
    have hin : vp_in (nI i) 8 := vp_in_nI hlt (by decide)
    refine br_f (nI_ge (b := 8) hlt (by decide)) ⟨hin, ?_⟩
    rw [hcl]
    by_cases g : ofs i = 0
    · have es : vw_od ofs st (i + 1) = vw_od ofs st i := if_pos g
      rw [es] at ih
      exact br_t g (nm_r (nI_1 i) ih)
    · have es : vw_od ofs st (i + 1) = vw_od ofs st i + st i := if_neg g
      exact br_f g ⟨hin, nm_r es.symm (nm_r (nI_1 i) ih)⟩
  · intro m
    refine br_t (by decide) ?_
    unfold wpY_offended
    dsimp only
    refine ⟨8 + 1, ?_⟩
    refine vw_acc 8 (fun m i s => wY_offended_4 (fun r' => r' = vw_od ofs st 8 ∧ i_Rel (k + 4) (nI n, st, ofs, wh, so, ta, mk) (nI n, st, wh, so, ta, ju)) (nI n) st wh so ta ju m s (nI i)) (vw_od ofs st) ?_ ?_
    · intro m i hlt ih
      have hcl : (nI i).toNatClampNeg = i := nI_clamp (by omega)
      have hin : vp_in (nI i) 8 := vp_in_nI hlt (by decide)
      refine br_f (nI_ge (b := 8) hlt (by decide)) ?_
      refine vw_offY _ n st wh so ta ju i hlt hn ?_ ?_
      · intro g
        have g' : ¬ ofs i = 0 := fun z => (hof i hlt).mp z g
        have es : vw_od ofs st i + 1 * st (nI i).toNatClampNeg = vw_od ofs st (i + 1) := by
          rw [hcl, Int32.one_mul]; exact (if_neg g').symm
        exact ⟨hin, nm_r es (nm_r (nI_1 i) ih)⟩
      · intro g
        have g' : ofs i = 0 := (hof i hlt).mpr g
        have es : vw_od ofs st i + 0 * st (nI i).toNatClampNeg = vw_od ofs st (i + 1) := by
          rw [Int32.zero_mul, Int32.add_zero]; exact (if_pos g').symm
        exact ⟨hin, nm_r es (nm_r (nI_1 i) ih)⟩
    · intro m
      exact br_t (by decide) ⟨rfl, I'⟩
/-- support, votes -/
theorem i_vc_support {k : Nat} {u : SX} {v : SY} (I : i_Rel k u v) (hk : k + 4 ≤ 2048) (v1 : Int32) (v2 : Int32) : wpX_support (fun r => wpY_support (fun r' => r' = r ∧ i_Rel (k + 4) u v) v v1 v2) u v1 v2 := by
  have I' : i_Rel (k + 4) u v := I
  obtain ⟨n, st, ofs, wh, so, ta, mk, ju, rfl, rfl, hn, ok, hof⟩ := I
  unfold wpX_support
  dsimp only
  refine vw_supX _ n st ofs wh so ta mk v1 v2 hn ok ?_
  exact vw_supY _ n st wh so ta ju v1 v2 hn ok ⟨rfl, I'⟩
def vw_vs (wh : Nat → Int32) (x : Int32) : Nat → Int32
  | 0 => 0
  | n + 1 => if wh n = x then vw_vs wh x n + 1 else vw_vs wh x n
theorem i_vc_votes {k : Nat} {u : SX} {v : SY} (I : i_Rel k u v) (hk : k + 4 ≤ 2048) (v1 : Int32) : wpX_votes (fun r => wpY_votes (fun r' => r' = r ∧ i_Rel (k + 4) u v) v v1) u v1 := by
  have I' : i_Rel (k + 4) u v := I
  obtain ⟨n, st, ofs, wh, so, ta, mk, ju, rfl, rfl, hn, ok, hof⟩ := I
  unfold wpX_votes
  dsimp only
  rcases vw_val v1 with ⟨j, hj, rfl, hX, hY⟩ | ⟨hX, hY⟩
  · refine hX _ (br_f vw_10 ⟨n + 1, ?_⟩)
    refine vw_acc n (fun m i s => wX_votes_13 (fun r => wpY_votes (fun r' => r' = r ∧ i_Rel (k + 4) (nI n, st, ofs, wh, so, ta, mk) (nI n, st, wh, so, ta, ju)) (nI n, st, wh, so, ta, ju) (nI j)) (nI j) (nI n) st ofs wh so ta mk m s (nI i)) (vw_vs wh (nI j)) ?_ ?_
    · intro m i hlt ih
      have hcl : (nI i).toNatClampNeg = i := nI_clamp (by omega)
      refine br_f (nI_ge hlt (by omega)) ⟨vp_in_nI (by omega) (by decide), ?_⟩
      rw [hcl]
      by_cases g : wh i = nI j
      · have es : vw_vs wh (nI j) (i + 1) = vw_vs wh (nI j) i + 1 := if_pos g
        exact br_t g (nm_r es.symm (nm_r (nI_1 i) ih))
      · have es : vw_vs wh (nI j) (i + 1) = vw_vs wh (nI j) i := if_neg g
        rw [es] at ih
        exact br_f g (nm_r (nI_1 i) ih)
    · intro m
      refine br_t (Int32.le_refl _) ?_
      unfold wpY_votes
      dsimp only
      refine hY _ (br_t rfl ⟨n + 1, ?_⟩)
      refine vw_acc n (fun m i s => wY_votes_13 (fun r' => r' = vw_vs wh (nI j) n ∧ i_Rel (k + 4) (nI n, st, ofs, wh, so, ta, mk) (nI n, st, wh, so, ta, ju)) (nI j) (nI n) st wh so ta ju m s (nI i)) (vw_vs wh (nI j)) ?_ ?_
      · intro m i hlt ih
        have hcl : (nI i).toNatClampNeg = i := nI_clamp (by omega)
        refine br_f (nI_ge hlt (by omega)) ⟨vp_in_nI (by omega) (by decide), ?_⟩
        rw [hcl]
        by_cases g : wh i = nI j
        · have es : vw_vs wh (nI j) (i + 1) = vw_vs wh (nI j) i + 1 := if_pos g
          exact br_t g (nm_r es.symm (nm_r (nI_1 i) ih))
        · have es : vw_vs wh (nI j) (i + 1) = vw_vs wh (nI j) i := if_neg g
          rw [es] at ih
          exact br_f g (nm_r (nI_1 i) ih)
      · intro m
        exact br_t (Int32.le_refl _) ⟨rfl, I'⟩
  · refine hX _ (br_t rfl ?_)
    unfold wpY_votes
    dsimp only
    exact hY _ (br_f vw_10 ⟨rfl, I'⟩)
