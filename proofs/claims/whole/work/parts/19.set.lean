/-! setStart, setEnd (one text, turned twice) -/
theorem i_vc_setStart {k : Nat} {u : SX} {v : SY} (I : i_Rel k u v) (hk : k + 5 ≤ 2560) (v1 : Int32) (v2 : Int32) (v3 : Int32) : wpX_setStart (fun r u' => wpY_setStart (fun r' v' => r' = r ∧ i_Rel (k + 5) u' v') v v1 v2 v3) u v1 v2 v3 := by
  have J := i_up I
  obtain ⟨c, kd, pa, sz, it, pn, po, sg, eg, rl, rn, oa, ca, il, dm, ln, mk, os, cs, cm, rfl, rfl, T, P⟩ := I
  have c24 := tr_c24 T
  unfold wpX_setStart
  dsimp only
  rcases nd_cases 4 v1 with ⟨q, hq, rfl⟩ | h
  · refine xx_isRange_t hq (br_f (by decide) ?_)
    have YW : ∀ post : Int32 → SY → Prop, wpY_setPlace (fun r u => post r u) (nI c, ln, ar_n kd, ar_p pa, ar_n sz, ar_n it, ar_n pn, ar_n po, mk, os, cs, cm) (nI (2 * q)) (nI (2 * q + 1)) (-1) v2 v3 → wpY_setStart post (nI c, ln, ar_n kd, ar_p pa, ar_n sz, ar_n it, ar_n pn, ar_n po, mk, os, cs, cm) (nI q) v2 v3 := by
      intro post h
      unfold wpY_setStart
      dsimp only
      refine yy_isRange_t hq (br_f (by decide) ?_)
      rw [ix_2y, nI_1]
      exact h
    rcases nd_cases c v2 with ⟨n, hn, rfl⟩ | h2
    · have s24 := tr_s24 T hn
      refine xx_isNode_t c24 hn (br_f (by decide) (xx_isOffset (by omega) s24 ?_ ?_))
      · intro o ho e
        subst e
        have V1 : ∀ j, j < 8 → pl_ok c sz (st_u pn (2 * q) n j) (st_u po (2 * q) o j) := by
          intro j hj
          by_cases e : j = 2 * q
          · subst e; rw [st_us, st_us]; exact ⟨hn, ho⟩
          · rw [st_un e, st_un e]; exact P.1 j hj
        have P2 : pl_P c kd pa sz it (st_u (st_u pn (2 * q) n) (2 * q + 1) n) (st_u (st_u po (2 * q) o) (2 * q + 1) o) := by
          have fa : ∀ (f : Nat → Nat) x, st_u (st_u f (2 * q) x) (2 * q + 1) x (2 * q) = x ∧ st_u (st_u f (2 * q) x) (2 * q + 1) x (2 * q + 1) = x := by
            intro f x
            unfold st_u
            constructor
            · split
              · rfl
              · split
                · rfl
                · omega
            · split
              · rfl
              · split
                · rfl
                · omega
          refine pl_set P hq (fun j h1 h2 => ?_) ?_ ?_ ?_
          · rw [st_un (by omega), st_un (by omega), st_un (by omega), st_un (by omega)]; exact ⟨rfl, rfl⟩
          · rw [(fa pn n).1, (fa po o).1]; exact ⟨hn, ho⟩
          · rw [(fa pn n).2, (fa po o).2]; exact ⟨hn, ho⟩
          · rw [(fa pn n).1, (fa po o).1, (fa pn n).2, (fa po o).2]; exact pl_Rr T hn
        refine br_f (by decide) (nm_r (ix_2x q) ?_)
        refine xx_setPlace (k := 2 * q) (by omega) rfl rfl ?_
        show wpX_placeOrder _ _ _ _
        rw [nI_1]
        obtain ⟨r, hr, pr, w⟩ := tr_top T (V1 (2 * q) (by omega)).1
        obtain ⟨r', hr', pr', w'⟩ := tr_top T (V1 (2 * q + 1) (by omega)).1
        by_cases e : r = r'
        · subst e
          obtain ⟨L, op, N, Q⟩ := ly_ex T
          refine xx_order_eq Q T V1 (by omega) (by omega) pr w w' ?_
          intro rl rn oa ca il
          by_cases l : ly_g kd it L op (st_u pn (2 * q) n (2 * q + 1)) (st_u po (2 * q) o (2 * q + 1)) < ly_g kd it L op (st_u pn (2 * q) n (2 * q)) (st_u po (2 * q) o (2 * q))
          · refine br_f (fun z => cp_1.1 z) (br_t (cp_1.2.1.mpr l) ?_)
            unfold wX_setStart_67
            rw [nI_1]
            refine xx_setPlace (k := 2 * q + 1) (by omega) rfl rfl ?_
            show wpY_setStart _ _ _ _ _
            refine YW _ (yy_sp0 T (by omega) hn ho (yy_order_eq Q T V1 (by omega) (by omega) pr w' w ?_))
            intro ln mk os cs cm
            refine br_f (fun z => cp_1.1 z) (br_t (cp_1.2.2.mpr l) ?_)
            unfold wY_setPlace_67
            refine yy_copyPlace (by omega) (by omega) ?_
            rw [st_us, st_us]
            exact ⟨rfl, rel_mk T P2⟩
          · refine br_f (fun z => cp_1.1 z) (br_f (fun z => l (cp_1.2.1.mp z)) ?_)
            show wpY_setStart _ _ _ _ _
            refine YW _ (yy_sp0 T (by omega) hn ho (yy_order_eq Q T V1 (by omega) (by omega) pr w' w ?_))
            intro ln mk os cs cm
            refine br_f (fun z => cp_1.1 z) (br_f (fun z => l (cp_1.2.2.mp z)) ?_)
            refine ⟨rfl, rel_mk T (pl_set P hq (fun j h1 h2 => ?_) (V1 _ (by omega)) (V1 _ (by omega)) ⟨⟨r, w, w'⟩, ly_ord Q T (V1 _ (by omega)) (V1 _ (by omega)) (by omega)⟩)⟩
            rw [st_un (by omega), st_un (by omega)]; exact ⟨rfl, rfl⟩
        · refine xx_order_ne T V1 (by omega) (by omega) pr w pr' w' e (br_t rfl ?_)
          unfold wX_setStart_67
          rw [nI_1]
          refine xx_setPlace (k := 2 * q + 1) (by omega) rfl rfl ?_
          show wpY_setStart _ _ _ _ _
          refine YW _ (yy_sp0 T (by omega) hn ho (yy_order_ne T V1 (by omega) (by omega) pr' w' pr w (Ne.symm e) (br_t rfl ?_)))
          unfold wY_setPlace_67
          refine yy_copyPlace (by omega) (by omega) ?_
          rw [st_us, st_us]
          exact ⟨rfl, rel_mk T P2⟩
      · intro h3
        refine br_t rfl (YW _ ?_)
        unfold wpY_setPlace
        dsimp only
        refine yy_isNode_t c24 hn (br_f (by decide) ?_)
        rcases of_f s24 h3 with z | ⟨z, z2⟩
        · exact br_t z ⟨rfl, J⟩
        · refine br_f z (in_c (vp_in_nI (by omega) (by omega)) (br_f ?_ ⟨rfl, J⟩))
          rw [ar_nc _ (by omega)]; exact z2
    · refine xx_isNode_f c24 h2 (br_t rfl (YW _ ?_))
      unfold wpY_setPlace
      dsimp only
      exact yy_isNode_f c24 h2 (br_t rfl ⟨rfl, J⟩)
  · refine xx_isRange_f h (br_t rfl ?_)
    unfold wpY_setStart
    dsimp only
    exact yy_isRange_f h (br_t rfl ⟨rfl, J⟩)
theorem i_vc_setEnd {k : Nat} {u : SX} {v : SY} (I : i_Rel k u v) (hk : k + 5 ≤ 2560) (v1 : Int32) (v2 : Int32) (v3 : Int32) : wpX_setEnd (fun r u' => wpY_setEnd (fun r' v' => r' = r ∧ i_Rel (k + 5) u' v') v v1 v2 v3) u v1 v2 v3 := by
  have J := i_up I
  obtain ⟨c, kd, pa, sz, it, pn, po, sg, eg, rl, rn, oa, ca, il, dm, ln, mk, os, cs, cm, rfl, rfl, T, P⟩ := I
  have c24 := tr_c24 T
  unfold wpX_setEnd
  dsimp only
  rcases nd_cases 4 v1 with ⟨q, hq, rfl⟩ | h
  · refine xx_isRange_t hq (br_f (by decide) ?_)
    have YW : ∀ post : Int32 → SY → Prop, wpY_setPlace (fun r u => post r u) (nI c, ln, ar_n kd, ar_p pa, ar_n sz, ar_n it, ar_n pn, ar_n po, mk, os, cs, cm) (nI (2 * q + 1)) (nI (2 * q)) (1) v2 v3 → wpY_setEnd post (nI c, ln, ar_n kd, ar_p pa, ar_n sz, ar_n it, ar_n pn, ar_n po, mk, os, cs, cm) (nI q) v2 v3 := by
      intro post h
      unfold wpY_setEnd
      dsimp only
      refine yy_isRange_t hq (br_f (by decide) ?_)
      rw [ix_2y, nI_1]
      exact h
    rcases nd_cases c v2 with ⟨n, hn, rfl⟩ | h2
    · have s24 := tr_s24 T hn
      refine xx_isNode_t c24 hn (br_f (by decide) (xx_isOffset (by omega) s24 ?_ ?_))
      · intro o ho e
        subst e
        have V1 : ∀ j, j < 8 → pl_ok c sz (st_u pn (2 * q + 1) n j) (st_u po (2 * q + 1) o j) := by
          intro j hj
          by_cases e : j = 2 * q + 1
          · subst e; rw [st_us, st_us]; exact ⟨hn, ho⟩
          · rw [st_un e, st_un e]; exact P.1 j hj
        have P2 : pl_P c kd pa sz it (st_u (st_u pn (2 * q + 1) n) (2 * q) n) (st_u (st_u po (2 * q + 1) o) (2 * q) o) := by
          have fa : ∀ (f : Nat → Nat) x, st_u (st_u f (2 * q + 1) x) (2 * q) x (2 * q) = x ∧ st_u (st_u f (2 * q + 1) x) (2 * q) x (2 * q + 1) = x := by
            intro f x
            unfold st_u
            constructor
            · split
              · rfl
              · split
                · rfl
                · omega
            · split
              · rfl
              · split
                · rfl
                · omega
          refine pl_set P hq (fun j h1 h2 => ?_) ?_ ?_ ?_
          · rw [st_un (by omega), st_un (by omega), st_un (by omega), st_un (by omega)]; exact ⟨rfl, rfl⟩
          · rw [(fa pn n).1, (fa po o).1]; exact ⟨hn, ho⟩
          · rw [(fa pn n).2, (fa po o).2]; exact ⟨hn, ho⟩
          · rw [(fa pn n).1, (fa po o).1, (fa pn n).2, (fa po o).2]; exact pl_Rr T hn
        refine br_f (by decide) (nm_r (ix_2x q) ?_)
        rw [nI_1]
        refine xx_setPlace (k := 2 * q + 1) (by omega) rfl rfl ?_
        show wpX_placeOrder _ _ _ _
        obtain ⟨r, hr, pr, w⟩ := tr_top T (V1 (2 * q) (by omega)).1
        obtain ⟨r', hr', pr', w'⟩ := tr_top T (V1 (2 * q + 1) (by omega)).1
        by_cases e : r = r'
        · subst e
          obtain ⟨L, op, N, Q⟩ := ly_ex T
          refine xx_order_eq Q T V1 (by omega) (by omega) pr w w' ?_
          intro rl rn oa ca il
          by_cases l : ly_g kd it L op (st_u pn (2 * q + 1) n (2 * q + 1)) (st_u po (2 * q + 1) o (2 * q + 1)) < ly_g kd it L op (st_u pn (2 * q + 1) n (2 * q)) (st_u po (2 * q + 1) o (2 * q))
          · refine br_f (fun z => cp_1.1 z) (br_t (cp_1.2.1.mpr l) ?_)
            unfold wX_setEnd_69
            refine xx_setPlace (k := 2 * q) (by omega) rfl rfl ?_
            show wpY_setEnd _ _ _ _ _
            refine YW _ (yy_sp0 T (by omega) hn ho (yy_order_eq Q T V1 (by omega) (by omega) pr w w' ?_))
            intro ln mk os cs cm
            refine br_f (fun z => cp_1.1 z) (br_t (cp_1.2.1.mpr l) ?_)
            unfold wY_setPlace_67
            refine yy_copyPlace (by omega) (by omega) ?_
            rw [st_us, st_us]
            exact ⟨rfl, rel_mk T P2⟩
          · refine br_f (fun z => cp_1.1 z) (br_f (fun z => l (cp_1.2.1.mp z)) ?_)
            show wpY_setEnd _ _ _ _ _
            refine YW _ (yy_sp0 T (by omega) hn ho (yy_order_eq Q T V1 (by omega) (by omega) pr w w' ?_))
            intro ln mk os cs cm
            refine br_f (fun z => cp_1.1 z) (br_f (fun z => l (cp_1.2.1.mp z)) ?_)
            refine ⟨rfl, rel_mk T (pl_set P hq (fun j h1 h2 => ?_) (V1 _ (by omega)) (V1 _ (by omega)) ⟨⟨r, w, w'⟩, ly_ord Q T (V1 _ (by omega)) (V1 _ (by omega)) (by omega)⟩)⟩
            rw [st_un (by omega), st_un (by omega)]; exact ⟨rfl, rfl⟩
        · refine xx_order_ne T V1 (by omega) (by omega) pr w pr' w' e (br_t rfl ?_)
          unfold wX_setEnd_69
          refine xx_setPlace (k := 2 * q) (by omega) rfl rfl ?_
          show wpY_setEnd _ _ _ _ _
          refine YW _ (yy_sp0 T (by omega) hn ho (yy_order_ne T V1 (by omega) (by omega) pr w pr' w' e (br_t rfl ?_)))
          unfold wY_setPlace_67
          refine yy_copyPlace (by omega) (by omega) ?_
          rw [st_us, st_us]
          exact ⟨rfl, rel_mk T P2⟩
      · intro h3
        refine br_t rfl (YW _ ?_)
        unfold wpY_setPlace
        dsimp only
        refine yy_isNode_t c24 hn (br_f (by decide) ?_)
        rcases of_f s24 h3 with z | ⟨z, z2⟩
        · exact br_t z ⟨rfl, J⟩
        · refine br_f z (in_c (vp_in_nI (by omega) (by omega)) (br_f ?_ ⟨rfl, J⟩))
          rw [ar_nc _ (by omega)]; exact z2
    · refine xx_isNode_f c24 h2 (br_t rfl (YW _ ?_))
      unfold wpY_setPlace
      dsimp only
      exact yy_isNode_f c24 h2 (br_t rfl ⟨rfl, J⟩)
  · refine xx_isRange_f h (br_t rfl ?_)
    unfold wpY_setEnd
    dsimp only
    exact yy_isRange_f h (br_t rfl ⟨rfl, J⟩)
