theorem vw_hold {f : Nat → Int32} {n i : Nat} {x : Int32} (h : i < n) : upd f n x i = f i := pk_un (by omega)
theorem vw_OffN (n : Nat) (wh so ta : Nat → Int32) (x s t y : Int32) : vw_Off (n + 1) (upd wh n x) (upd so n s) (upd ta n t) y ↔ (vw_Off n wh so ta y ∨ (y = x ∧ ∃ i, i < n ∧ wh i = x ∧ vw_hit so ta s t i)) := by
  constructor
  · rintro ⟨i, j, hi, hj, ne, ei, ej, b⟩
    unfold vw_bad2 at b
    by_cases hin : i = n
    · have hjn : j < n := by omega
      rw [hin, pk_us] at ei
      rw [vw_hold hjn] at ej
      rw [hin, pk_us, pk_us, vw_hold hjn, vw_hold hjn] at b
      refine Or.inr ⟨ei.symm, j, hjn, ej.trans ei.symm, ?_⟩
      rcases b with b | b
      · exact Or.inl b.symm
      · exact Or.inr (Or.inl b)
    · have hin' : i < n := by omega
      rw [vw_hold hin'] at ei
      rw [vw_hold hin', vw_hold hin'] at b
      by_cases hjn : j = n
      · rw [hjn, pk_us] at ej
        rw [hjn, pk_us, pk_us] at b
        refine Or.inr ⟨ej.symm, i, hin', ei.trans ej.symm, ?_⟩
        rcases b with b | b
        · exact Or.inl b
        · exact Or.inr (Or.inr b)
      · have hjn' : j < n := by omega
        rw [vw_hold hjn'] at ej
        rw [vw_hold hjn', vw_hold hjn'] at b
        exact Or.inl ⟨i, j, hin', hjn', ne, ei, ej, b⟩
  · rintro (⟨i, j, hi, hj, ne, ei, ej, b⟩ | ⟨rfl, i, hi, ei, b⟩)
    · refine ⟨i, j, by omega, by omega, ne, by rw [vw_hold hi]; exact ei, by rw [vw_hold hj]; exact ej, ?_⟩
      unfold vw_bad2
      rw [vw_hold hi, vw_hold hi, vw_hold hj, vw_hold hj]
      exact b
    · have ne : i ≠ n := by omega
      have e1 : upd wh n y i = y := by rw [vw_hold hi]; exact ei
      have e2 : upd wh n y n = y := pk_us
      rcases b with b | b | b
      · refine ⟨i, n, by omega, by omega, ne, e1, e2, Or.inl ?_⟩
        rw [vw_hold hi, pk_us]; exact b
      · refine ⟨n, i, by omega, by omega, ne.symm, e2, e1, Or.inr ?_⟩
        rw [vw_hold hi, vw_hold hi, pk_us, pk_us]; exact b
      · refine ⟨i, n, by omega, by omega, ne, e1, e2, Or.inr ?_⟩
        rw [vw_hold hi, vw_hold hi, pk_us, pk_us]; exact b
theorem vw_okN {n : Nat} {wh so ta : Nat → Int32} (ok : vw_ok n wh so ta) {w s t : Nat} (hw : w < 8) (hs : s < 128) (ht : t < 128) (h : s / 4 < t / 4) : vw_ok (n + 1) (upd wh n (nI w)) (upd so n (nI s)) (upd ta n (nI t)) := by
  intro i hi
  by_cases e : i = n
  · rw [e, pk_us, pk_us, pk_us]
    exact ⟨w, s, t, hw, hs, ht, h, rfl, rfl, rfl⟩
  · have hi' : i < n := by omega
    rw [vw_hold hi', vw_hold hi', vw_hold hi']
    exact ok i hi'
def vw_lkY (A B : Prop) (p q : Int32) : Prop := wpY_badPoint (fun r_3 => (((r_3 = 0 → (wpY_badPoint (fun r_5 => (((r_5 = 0 → (¬ (4 : Int32) = 0 ∧ (¬ (4 : Int32) = 0 ∧ ((((p / 4) < (q / 4) → A) ∧ (¬ (p / 4) < (q / 4) → B)))))) ∧ (¬ r_5 = 0 → B)))) q)) ∧ (¬ r_3 = 0 → B)))) p
theorem vw_link (p q : Int32) : (∃ s t : Nat, s < 128 ∧ t < 128 ∧ s / 4 < t / 4 ∧ p = nI s ∧ q = nI t ∧ (∀ post : Int32 → Prop, post 1 → wpX_isLink post p q) ∧ (∀ A B : Prop, A → vw_lkY A B p q)) ∨ ((∀ post : Int32 → Prop, post 0 → wpX_isLink post p q) ∧ (∀ A B : Prop, B → vw_lkY A B p q)) := by
  unfold wpX_isLink vw_lkY
  rcases vw_ck p with ⟨s, hs, rfl, hX, hY⟩ | ⟨hX, hY⟩
  · rcases vw_ck q with ⟨t, ht, rfl, hX', hY'⟩ | ⟨hX', hY'⟩
    · have es := vw_c4 (a := s) (by omega)
      have et := vw_c4 (a := t) (by omega)
      by_cases h : s / 4 < t / 4
      · refine Or.inl ⟨s, t, hs, ht, h, rfl, rfl, fun post hp => hX _ (br_f vw_10 (hX' _ (br_f vw_10 ⟨vw_4, vw_4, ?_⟩))), fun A B a => hY _ (br_t rfl (hY' _ (br_t rfl ⟨vw_4, vw_4, ?_⟩)))⟩
        · rw [es, et]; exact br_f (nI_ge h (by omega)) hp
        · rw [es, et]; exact br_t (nI_lt h (by omega)) a
      · refine Or.inr ⟨fun post hp => hX _ (br_f vw_10 (hX' _ (br_f vw_10 ⟨vw_4, vw_4, ?_⟩))), fun A B b => hY _ (br_t rfl (hY' _ (br_t rfl ⟨vw_4, vw_4, ?_⟩)))⟩
        · rw [es, et]; exact br_t (nI_le (by omega) (by omega)) hp
        · rw [es, et]; exact br_f (nI_nlt (by omega) (by omega)) b
    · exact Or.inr ⟨fun post hp => hX _ (br_f vw_10 (hX' _ (br_t rfl hp))), fun A B b => hY _ (br_t rfl (hY' _ (br_f vw_10 b)))⟩
  · exact Or.inr ⟨fun post hp => hX _ (br_t rfl hp), fun A B b => hY _ (br_f vw_10 b)⟩
theorem vw_v60 (post : Int32 → SX → Prop) (n : Nat) (st ofs wh so ta mk : Nat → Int32) (x s t r : Int32) (hn : n < 64) (hp : post r (nI (n + 1), st, ofs, upd wh n x, upd so n s, upd ta n t, mk)) : wX_vote_60 post x s t r (nI n) st ofs wh so ta mk := by
  have hcl : (nI n).toNatClampNeg = n := nI_clamp (by omega)
  have hin : vp_in (nI n) 64 := vp_in_nI hn (by decide)
  unfold wX_vote_60
  rw [hcl]
  exact ⟨hin, nm_e ⟨hin, nm_e ⟨hin, nm_e (nm_r (nI_1 n) hp)⟩⟩⟩
theorem i_vc_vote {k : Nat} {u : SX} {v : SY} (I : i_Rel k u v) (hk : k + 4 ≤ 2048) (v1 : Int32) (v2 : Int32) (v3 : Int32) : wpX_vote (fun r u' => wpY_vote (fun r' v' => r' = r ∧ i_Rel (k + 4) u' v') v v1 v2 v3) u v1 v2 v3 := by
  obtain ⟨n, st, ofs, wh, so, ta, mk, ju, rfl, rfl, hn, ok, hof⟩ := I
  have R : i_Rel (k + 4) (nI n, st, ofs, wh, so, ta, mk) (nI n, st, wh, so, ta, ju) := ⟨n, st, ofs, wh, so, ta, mk, ju, rfl, rfl, hn, ok, hof⟩
  unfold wpX_vote
  dsimp only
  rcases vw_val v1 with ⟨w, hw, rfl, hX, hY⟩ | ⟨hX, hY⟩
  · refine hX _ (br_f vw_10 ?_)
    rcases vw_link v2 v3 with ⟨s, t, hs, ht, hst, rfl, rfl, hXl, hYl⟩ | ⟨hXl, hYl⟩
    · refine hXl _ (br_f vw_10 ?_)
      by_cases hf : n = 64
      · have e64 : nI n = 64 := by rw [hf]; rfl
        refine br_t (by rw [e64]; exact Int32.le_refl _) ?_
        unfold wpY_vote
        dsimp only
        refine hY _ (br_t rfl (hYl _ _ ?_))
        refine vw_hdY _ n st wh so ta ju (nI w) (nI s) (nI t) hn ?_ ?_
        · intro _
          exact br_f vw_10 ⟨rfl, R⟩
        · intro _
          exact br_t rfl (br_t e64 ⟨rfl, R⟩)
      · have hn' : n < 64 := by omega
        refine br_f (nI_ge (b := 64) hn' (by decide)) ?_
        refine vw_hdX _ n st ofs wh so ta mk (nI w) (nI s) (nI t) hn ?_ ?_
        · intro g
          refine br_f vw_10 ?_
          unfold wpY_vote
          dsimp only
          refine hY _ (br_t rfl (hYl _ _ ?_))
          refine vw_hdY _ n st wh so ta ju (nI w) (nI s) (nI t) hn ?_ ?_
          · intro _
            exact br_f vw_10 ⟨rfl, R⟩
          · intro z
            exact absurd g z
        · intro g
          refine br_t rfl ?_
          have walk : ∀ ofs' : Nat → Int32, (∀ x, x < 8 → (ofs' x = 0 ↔ ¬ vw_Off (n + 1) (upd wh n (nI w)) (upd so n (nI s)) (upd ta n (nI t)) (nI x))) → wpY_vote (fun r' v' => r' = vw_ac wh so ta (nI w) (nI s) (nI t) n ∧ i_Rel (k + 4) (nI (n + 1), st, ofs', upd wh n (nI w), upd so n (nI s), upd ta n (nI t), mk) v') (nI n, st, wh, so, ta, ju) (nI w) (nI s) (nI t) := by
            intro ofs' h'
            unfold wpY_vote
            dsimp only
            refine hY _ (br_t rfl (hYl _ _ ?_))
            refine vw_hdY _ n st wh so ta ju (nI w) (nI s) (nI t) hn ?_ ?_
            · intro z
              exact absurd z g
            · intro _
              refine br_t rfl (br_f (fun z => hf ((nI_eq (b := 64) (by omega) (by decide)).mp z)) ?_)
              refine vw_vlY _ n st wh so ta ju (nI w) (nI s) (nI t) hn' ?_
              exact ⟨rfl, n + 1, st, ofs', _, _, _, mk, ju, rfl, rfl, hn', vw_okN ok hw hs ht hst, h'⟩
          refine vw_ooX _ n st ofs wh so ta mk (nI w) s t hn ok hs ht ?_
          have a0 := vw_ac0 wh so ta (nI w) (nI s) (nI t) n
          by_cases z : vw_ac wh so ta (nI w) (nI s) (nI t) n = 0
          · refine br_t z ?_
            refine vw_v60 _ n st ofs wh so ta mk (nI w) (nI s) (nI t) _ hn' ?_
            refine walk ofs ?_
            intro x hx
            rw [vw_OffN, hof x hx]
            constructor
            · intro h y
              exact y.elim h fun q => (a0.mp z) q.2
            · intro h y
              exact h (Or.inl y)
          · refine br_f z ⟨vp_in_nI hw (by decide), ?_⟩
            rw [vw_n1, nI_clamp (n := w) (by omega)]
            refine nm_e ?_
            refine vw_v60 _ n st _ wh so ta mk (nI w) (nI s) (nI t) _ hn' ?_
            refine walk _ ?_
            intro x hx
            rw [vw_OffN]
            have hex : ∃ i, i < n ∧ wh i = nI w ∧ vw_hit so ta (nI s) (nI t) i := Classical.byContradiction fun y => z (a0.mpr y)
            by_cases e : x = w
            · rw [e, pk_us]
              exact ⟨fun y => absurd y vw_10, fun y => absurd (Or.inr ⟨rfl, hex⟩) y⟩
            · rw [pk_un e, hof x hx]
              constructor
              · intro h y
                exact y.elim h fun q => e ((nI_eq (by omega) (by omega)).mp q.1)
              · intro h y
                exact h (Or.inl y)
    · refine hXl _ (br_t rfl ?_)
      unfold wpY_vote
      dsimp only
      exact hY _ (br_t rfl (hYl _ _ ⟨rfl, R⟩))
  · refine hX _ (br_t rfl ?_)
    unfold wpY_vote
    dsimp only
    exact hY _ (br_f vw_10 ⟨rfl, R⟩)
