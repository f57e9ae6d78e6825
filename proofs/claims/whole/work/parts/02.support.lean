/-- support and total of side X -/
theorem vw_supX (post : Int32 → Prop) (n : Nat) (st ofs wh so ta mk : Nat → Int32) (c d : Int32) (hn : n ≤ 64) (ok : vw_ok n wh so ta) (hp : post (vw_sup st wh so ta c d n)) : wpX_stakeBehind post (nI n, st, ofs, wh, so, ta, mk) c d := by
  refine ⟨n + 1, ?_⟩
  refine vw_acc n (fun m i s => wX_stakeBehind_5 post c d (nI n) st ofs wh so ta mk m s (nI i)) (vw_sup st wh so ta c d) ?_ ?_
  · intro m i hlt ih
    have hcl : (nI i).toNatClampNeg = i := nI_clamp (by omega)
    have hin : vp_in (nI i) 64 := vp_in_nI (by omega) (by decide)
    obtain ⟨w, s, t, hw, hs, ht, hst, e1, e2, e3⟩ := ok i hlt
    refine br_f (nI_ge hlt (by omega)) ⟨hin, ?_⟩
    rw [hcl]
    by_cases h1 : so i = c
    · refine br_t h1 ⟨hin, ?_⟩
      by_cases h2 : ta i = d
      · have es : vw_sup st wh so ta c d (i + 1) = vw_sup st wh so ta c d i + st (wh i).toNatClampNeg := if_pos ⟨h1, h2⟩
        exact br_t h2 ⟨hin, by rw [e1]; exact vp_in_nI hw (by decide), nm_r es.symm (nm_r (nI_1 i) ih)⟩
      · have es : vw_sup st wh so ta c d (i + 1) = vw_sup st wh so ta c d i := if_neg fun z => h2 z.2
        rw [es] at ih
        exact br_f h2 (nm_r (nI_1 i) ih)
    · have es : vw_sup st wh so ta c d (i + 1) = vw_sup st wh so ta c d i := if_neg fun z => h1 z.1
      rw [es] at ih
      exact br_f h1 (nm_r (nI_1 i) ih)
  · intro m
    exact br_t (Int32.le_refl _) hp
theorem vw_totX (post : Int32 → Prop) (n : Nat) (st ofs wh so ta mk : Nat → Int32) (hp : post (vw_tot st 8)) : wpX_totalStake post (nI n, st, ofs, wh, so, ta, mk) := by
  refine ⟨8 + 1, ?_⟩
  refine vw_acc 8 (fun m i s => wX_totalStake_4 post (nI n) st ofs wh so ta mk m s (nI i)) (vw_tot st) ?_ ?_
  · intro m i hlt ih
    have hcl : (nI i).toNatClampNeg = i := nI_clamp (by omega)
    have hin : vp_in (nI i) 8 := vp_in_nI hlt (by decide)
    refine br_f (nI_ge (b := 8) hlt (by decide)) ⟨hin, ?_⟩
    rw [hcl]
    exact nm_r (e' := vw_tot st (i + 1)) rfl (nm_r (nI_1 i) ih)
  · intro m
    exact br_t (by decide) hp
theorem vw_suX (post : Int32 → Prop) (n : Nat) (st ofs wh so ta mk : Nat → Int32) (c d : Int32) (hn : n ≤ 64) (ok : vw_ok n wh so ta) (h1 : vw_S n st wh so ta c d → post 1) (h0 : ¬ vw_S n st wh so ta c d → post 0) : wpX_isSupported post (nI n, st, ofs, wh, so, ta, mk) c d := by
  unfold wpX_isSupported
  dsimp only
  refine vw_supX _ n st ofs wh so ta mk c d hn ok ?_
  refine vw_totX _ n st ofs wh so ta mk ?_
  exact br_c (fun z => h0 fun y => y z) fun z => h1 z
/-- support and total of side Y -/
theorem vw_supY (post : Int32 → Prop) (n : Nat) (st wh so ta ju : Nat → Int32) (c d : Int32) (hn : n ≤ 64) (ok : vw_ok n wh so ta) (hp : post (vw_sup st wh so ta c d n)) : wpY_support post (nI n, st, wh, so, ta, ju) c d := by
  refine ⟨n + 1, ?_⟩
  refine vw_acc n (fun m i s => wY_support_5 post c d (nI n) st wh so ta ju m s (nI i)) (vw_sup st wh so ta c d) ?_ ?_
  · intro m i hlt ih
    have hcl : (nI i).toNatClampNeg = i := nI_clamp (by omega)
    have hin : vp_in (nI i) 64 := vp_in_nI (by omega) (by decide)
    obtain ⟨w, s, t, hw, hs, ht, hst, e1, e2, e3⟩ := ok i hlt
    refine br_f (nI_ge hlt (by omega)) ⟨hin, ?_⟩
    rw [hcl]
    by_cases h1 : so i = c
    · refine br_t h1 ⟨hin, ?_⟩
      by_cases h2 : ta i = d
      · have es : vw_sup st wh so ta c d (i + 1) = vw_sup st wh so ta c d i + st (wh i).toNatClampNeg := if_pos ⟨h1, h2⟩
        exact br_t h2 ⟨hin, by rw [e1]; exact vp_in_nI hw (by decide), nm_r es.symm (nm_r (nI_1 i) ih)⟩
      · have es : vw_sup st wh so ta c d (i + 1) = vw_sup st wh so ta c d i := if_neg fun z => h2 z.2
        rw [es] at ih
        exact br_f h2 (nm_r (nI_1 i) ih)
    · have es : vw_sup st wh so ta c d (i + 1) = vw_sup st wh so ta c d i := if_neg fun z => h1 z.1
      rw [es] at ih
      exact br_f h1 (nm_r (nI_1 i) ih)
  · intro m
    exact br_t (Int32.le_refl _) hp
theorem vw_totY (post : Int32 → Prop) (n : Nat) (st wh so ta ju : Nat → Int32) (hp : post (vw_tot st 8)) : wpY_total post (nI n, st, wh, so, ta, ju) := by
  refine ⟨8 + 1, ?_⟩
  refine vw_acc 8 (fun m i s => wY_total_4 post (nI n) st wh so ta ju m s (nI i)) (vw_tot st) ?_ ?_
  · intro m i hlt ih
    have hcl : (nI i).toNatClampNeg = i := nI_clamp (by omega)
    have hin : vp_in (nI i) 8 := vp_in_nI hlt (by decide)
    refine br_f (nI_ge (b := 8) hlt (by decide)) ⟨hin, ?_⟩
    rw [hcl]
    exact nm_r (e' := vw_tot st (i + 1)) rfl (nm_r (nI_1 i) ih)
  · intro m
    exact br_t (by decide) hp
theorem vw_suY (post : Int32 → Prop) (n : Nat) (st wh so ta ju : Nat → Int32) (c d : Int32) (hn : n ≤ 64) (ok : vw_ok n wh so ta) (h1 : vw_S n st wh so ta c d → post 1) (h0 : ¬ vw_S n st wh so ta c d → post 0) : wpY_supported post (nI n, st, wh, so, ta, ju) c d := by
  unfold wpY_supported
  dsimp only
  refine vw_supY _ n st wh so ta ju c d hn ok ?_
  refine vw_totY _ n st wh so ta ju ?_
  exact br_c (fun z => h0 fun y => y z) fun z => h1 z
