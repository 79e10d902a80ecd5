/-! erase -/
theorem i_vc_erase {k : Nat} {u : SX} {v : SY} (I : i_Rel k u v) (hk : k + 5 ≤ 2560) (v1 : Int32) : wpX_erase (fun r u' => wpY_erase (fun r' v' => r' = r ∧ i_Rel (k + 5) u' v') v v1) u v1 := by
  have J := i_up I
  obtain ⟨c, kd, pa, sz, it, pn, po, sg, eg, rl, rn, oa, ca, il, dm, ln, mk, os, cs, cm, rfl, rfl, T, P⟩ := I
  have c24 := tr_c24 T
  rcases nd_cases 4 v1 with ⟨q, hq, rfl⟩ | h
  · have va := P.1 (2 * q) (by omega)
    have vb := P.1 (2 * q + 1) (by omega)
    have hs := va.1
    have he := vb.1
    have sa := va.2
    have sb := vb.2
    have ss24 := tr_s24 T hs
    have se24 := tr_s24 T he
    have hi0 : vp_in (nI (2 * q)) 8 := vp_in_nI (by omega) (by omega)
    have hi1 : vp_in (nI (2 * q + 1)) 8 := vp_in_nI (by omega) (by omega)
    have hsi : vp_in (nI (pn (2 * q))) 24 := vp_in_nI (by omega) (by omega)
    have XW : ∀ (post : Int32 → SX → Prop), ((nI (pn (2 * q)) = nI (pn (2 * q + 1)) → ((nI (po (2 * q)) = nI (po (2 * q + 1)) → post 0 (nI c, sg, eg, ar_n kd, ar_p pa, ar_n sz, ar_n it, ar_n pn, ar_n po, rl, rn, oa, ca, il, dm)) ∧ (¬ nI (po (2 * q)) = nI (po (2 * q + 1)) → wX_erase_64 post (nI q) (nI (pn (2 * q))) (nI (po (2 * q))) (nI (pn (2 * q + 1))) (nI (po (2 * q + 1))) (nI c) sg eg (ar_n kd) (ar_p pa) (ar_n sz) (ar_n it) (ar_n pn) (ar_n po) rl rn oa ca il dm))) ∧ (¬ nI (pn (2 * q)) = nI (pn (2 * q + 1)) → wX_erase_64 post (nI q) (nI (pn (2 * q))) (nI (po (2 * q))) (nI (pn (2 * q + 1))) (nI (po (2 * q + 1))) (nI c) sg eg (ar_n kd) (ar_p pa) (ar_n sz) (ar_n it) (ar_n pn) (ar_n po) rl rn oa ca il dm)) → wpX_erase post (nI c, sg, eg, ar_n kd, ar_p pa, ar_n sz, ar_n it, ar_n pn, ar_n po, rl, rn, oa, ca, il, dm) (nI q) := by
      intro post h
      unfold wpX_erase
      dsimp only
      refine xx_isRange_t hq (br_f (by decide) (nm_r (ix_2x q) ?_))
      rw [nI_1 (2 * q)]
      exact in_c hi0 (nm_r (ar_nc _ (by omega)) (in_c hi0 (nm_r (ar_nc _ (by omega)) (in_c hi1 (nm_r (ar_nc _ (by omega)) (in_c hi1 (nm_r (ar_nc _ (by omega)) h)))))))
    have YW : ∀ (post : Int32 → SY → Prop), ((nI (pn (2 * q)) = nI (pn (2 * q + 1)) → ((nI (po (2 * q)) = nI (po (2 * q + 1)) → post 0 (nI c, ln, ar_n kd, ar_p pa, ar_n sz, ar_n it, ar_n pn, ar_n po, mk, os, cs, cm)) ∧ (¬ nI (po (2 * q)) = nI (po (2 * q + 1)) → wY_erase_66 post (nI q) (nI (pn (2 * q))) (nI (po (2 * q))) (nI (pn (2 * q + 1))) (nI (po (2 * q + 1))) (nI c) ln (ar_n kd) (ar_p pa) (ar_n sz) (ar_n it) (ar_n pn) (ar_n po) mk os cs cm))) ∧ (¬ nI (pn (2 * q)) = nI (pn (2 * q + 1)) → wY_erase_66 post (nI q) (nI (pn (2 * q))) (nI (po (2 * q))) (nI (pn (2 * q + 1))) (nI (po (2 * q + 1))) (nI c) ln (ar_n kd) (ar_p pa) (ar_n sz) (ar_n it) (ar_n pn) (ar_n po) mk os cs cm)) → wpY_erase post (nI c, ln, ar_n kd, ar_p pa, ar_n sz, ar_n it, ar_n pn, ar_n po, mk, os, cs, cm) (nI q) := by
      intro post h
      unfold wpY_erase
      dsimp only
      refine yy_isRange_t hq (br_f (by decide) ?_)
      rw [ix_2y, nI_1 (2 * q)]
      exact in_c hi0 (nm_r (ar_nc _ (by omega)) (in_c hi0 (nm_r (ar_nc _ (by omega)) (in_c hi1 (nm_r (ar_nc _ (by omega)) (in_c hi1 (nm_r (ar_nc _ (by omega)) h)))))))
    have esn : nI (pn (2 * q)) = nI (pn (2 * q + 1)) ↔ pn (2 * q) = pn (2 * q + 1) := nI_eq (by omega) (by omega)
    have eon : nI (po (2 * q)) = nI (po (2 * q + 1)) ↔ po (2 * q) = po (2 * q + 1) := nI_eq (by omega) (by omega)
    by_cases A : pn (2 * q) = pn (2 * q + 1) ∧ po (2 * q) = po (2 * q + 1)
    · exact XW _ (br_t (esn.mpr A.1) (br_t (eon.mpr A.2) (YW _ (br_t (esn.mpr A.1) (br_t (eon.mpr A.2) ⟨rfl, J⟩)))))
    · have X64 : ∀ (post : Int32 → SX → Prop), wX_erase_64 post (nI q) (nI (pn (2 * q))) (nI (po (2 * q))) (nI (pn (2 * q + 1))) (nI (po (2 * q + 1))) (nI c) sg eg (ar_n kd) (ar_p pa) (ar_n sz) (ar_n it) (ar_n pn) (ar_n po) rl rn oa ca il dm → wpX_erase post (nI c, sg, eg, ar_n kd, ar_p pa, ar_n sz, ar_n it, ar_n pn, ar_n po, rl, rn, oa, ca, il, dm) (nI q) := by
        intro post h
        refine XW post (cb_i esn (fun e => br_f (fun z => A ⟨e, eon.mp z⟩) h) (fun _ => h))
      have Y66 : ∀ (post : Int32 → SY → Prop), wY_erase_66 post (nI q) (nI (pn (2 * q))) (nI (po (2 * q))) (nI (pn (2 * q + 1))) (nI (po (2 * q + 1))) (nI c) ln (ar_n kd) (ar_p pa) (ar_n sz) (ar_n it) (ar_n pn) (ar_n po) mk os cs cm → wpY_erase post (nI c, ln, ar_n kd, ar_p pa, ar_n sz, ar_n it, ar_n pn, ar_n po, mk, os, cs, cm) (nI q) := by
        intro post h
        refine YW post (cb_i esn (fun e => br_f (fun z => A ⟨e, eon.mp z⟩) h) (fun _ => h))
      by_cases B : pn (2 * q) = pn (2 * q + 1) ∧ kd (pn (2 * q)) = 1
      · -- within one text
        have le := (P.2 q hq).2 (pn (2 * q)) (2 * po (2 * q)) (2 * po (2 * q + 1)) hs (Or.inl ⟨rfl, rfl⟩) (Or.inl ⟨B.1.symm, rfl⟩)
        have s12 := (T.2.2.1 _ hs B.2).1
        rw [← B.1] at sb
        obtain ⟨T2, P2⟩ := ex_TP T P (t := pn (2 * q)) (a := po (2 * q)) (g := po (2 * q + 1) - po (2 * q)) (k := 0) (d := 0) hs B.2 (by omega) (by omega)
        refine X64 _ (br_t (esn.mpr B.1) (in_c hsi (br_t (by rw [ar_nc _ (by omega), B.2]; rfl) ?_)))
        rw [pk_sub (by omega)]
        refine xx_replaceLetters (k := 0) (d := 0) T P.1 hs (by omega) (by omega) s12 (Or.inl ⟨rfl, rfl, rfl⟩) ?_
        refine Y66 _ (br_t (esn.mpr B.1) (in_c hsi (br_f (by rw [ar_nc _ (by omega), B.2]; decide) ?_)))
        rw [pk_sub (by omega)]
        exact yy_exchange (k := 0) T P.1 hs (by omega) (by omega) s12 (by omega) ⟨rfl, rel_mk T2 P2⟩
      · -- across
        have X95 : ∀ (post : Int32 → SX → Prop), wpX_eraseAcross (fun r u => post r u) (nI c, sg, eg, ar_n kd, ar_p pa, ar_n sz, ar_n it, ar_n pn, ar_n po, rl, rn, oa, ca, il, dm) (nI q) → wpX_erase post (nI c, sg, eg, ar_n kd, ar_p pa, ar_n sz, ar_n it, ar_n pn, ar_n po, rl, rn, oa, ca, il, dm) (nI q) := by
          intro post h
          refine X64 post (cb_i esn (fun e => in_c hsi (br_f ?_ h)) (fun _ => h))
          rw [ar_nc _ (by omega), (tr_k1 T hs).resolve_right (fun z => B ⟨e, z⟩)]
          decide
        have Y94 : ∀ (post : Int32 → SY → Prop), wY_erase_94 post (nI q) (nI (pn (2 * q))) (nI (po (2 * q))) (nI (pn (2 * q + 1))) (nI (po (2 * q + 1))) (nI c) ln (ar_n kd) (ar_p pa) (ar_n sz) (ar_n it) (ar_n pn) (ar_n po) mk os cs cm → wpY_erase post (nI c, ln, ar_n kd, ar_p pa, ar_n sz, ar_n it, ar_n pn, ar_n po, mk, os, cs, cm) (nI q) := by
          intro post h
          refine Y66 post (cb_i esn (fun e => in_c hsi (br_t ?_ h)) (fun _ => h))
          rw [ar_nc _ (by omega), (tr_k1 T hs).resolve_right (fun z => B ⟨e, z⟩)]
          rfl
        obtain ⟨r, hr, pr, ws, we⟩ := pl_top T P hq
        obtain ⟨L, op, N, Q⟩ := ly_ex T
        have ga := ly_gr Q T va hr pr ws
        have gb := ly_gr Q T vb hr pr we
        have o0 := Q.2.2.1 r hr pr
        obtain ⟨x, y, hx, kx, hy, hop, ax, ay⟩ := er_xy T P Q hq pr ws we B
        refine X95 _ (ax sg eg rl rn oa ca il dm _ ?_)
        unfold wX_eraseAcross_84
        refine xx_layRange Q T P.1 hq pr ws we ?_
        intro rl rn oa ca il D
        refine xx_findDoomed (sg := sg) (eg := eg) Q T hr pr D ga.1 ga.2.1 gb.2.1 ?_
        intro m dl dm LD hdm
        have m24 : m ≤ 24 := Nat.le_trans (er_m LD) c24
        have hd : ∀ i, i < m → dl i < c ∧ op (dl i) < 1000 := by
          intro i hi
          have d := LD.1 i hi
          have inn := ly_in Q T d.1 d.2.1.1
          exact ⟨d.1, by omega⟩
        have hpa : ∀ i, i < m → pa (dl i) ≠ 0 := by
          intro i hi z
          have d := LD.1 i hi
          have e := tr_t1 z pr (tr_wr _ _) d.2.1.1
          have := d.2.1.2.1
          rw [e, o0] at this
          omega
        have hch : ∀ i j, i < m → j < y → dl i ≠ it (24 * x + j) := by
          intro i j hi hj z
          have d := (LD.1 i hi).2.1.2.1
          have := hop j hj
          rw [z] at d
          omega
        have fin : ∀ (S : Int32) (os : Nat → Int32), (∀ i, i < 32 → (bt S i = true ↔ er_D c pa L op r (ly_g kd it L op (pn (2 * q)) (po (2 * q))) (ly_g kd it L op (pn (2 * q + 1)) (po (2 * q + 1))) i)) → ∀ i, i < 32 → (bt S i = true ↔ ∃ i', i' < m ∧ dl i' = i) := by
          intro S _ h i hi
          rw [h i hi]
          constructor
          · exact LD.2.2 i
          · rintro ⟨i', h1, rfl⟩; exact LD.1 i' h1
        have YF : ∀ (post : Int32 → SY → Prop), (∀ ln mk os cs cm S, (∀ m, m < c → tr_w pa (m + 1) r → rw_E kd sz it L op mk os cs m) → (∀ i, i < 32 → (bt S i = true ↔ ∃ i', i' < m ∧ dl i' = i)) → wY_erase_195 post (nI q) (nI (pn (2 * q))) (nI (po (2 * q))) (nI (pn (2 * q + 1))) (nI (po (2 * q + 1))) S (nI x) (nI y) (nI c) ln (ar_n kd) (ar_p pa) (ar_n sz) (ar_n it) (ar_n pn) (ar_n po) mk os cs cm) → wpY_erase post (nI c, ln, ar_n kd, ar_p pa, ar_n sz, ar_n it, ar_n pn, ar_n po, mk, os, cs, cm) (nI q) := by
          intro post h
          refine Y94 post ?_
          unfold wY_erase_94
          refine yy_inside Q T P.1 hq pr ws we ?_
          intro ln mk os cs cm S E hS
          exact ay ln mk os cs cm post S (h ln mk os cs cm S E (fin S os hS))
        refine in_c hsi ?_
        by_cases ks : kd (pn (2 * q)) = 1
        · have s12 := (T.2.2.1 _ hs ks).1
          have nse : pn (2 * q + 1) ≠ pn (2 * q) := fun z => B ⟨z.symm, ks⟩
          obtain ⟨h0, _⟩ := ex_T T (t := pn (2 * q)) (a := po (2 * q)) (g := sz (pn (2 * q)) - po (2 * q)) (k := 0) (d := 0) hs ks (by omega) (by omega)
          obtain ⟨T2, P2⟩ := ex_TP T P (t := pn (2 * q)) (a := po (2 * q)) (g := sz (pn (2 * q)) - po (2 * q)) (k := 0) (d := 0) hs ks (by omega) (by omega)
          have hx0 := h0 x hx kx
          have sx24 := tr_s24 T hx
          obtain ⟨pa', sz', it', pn', po', T3, P3, bx, by'⟩ := er_all (e := pn (2 * q + 1)) (b := po (2 * q + 1)) (y := y) hd LD.2.1 m24 hx kx he hq T2 P2 (fun i j hi hj => by rw [hx0.2 j (by omega)]; exact hch i j hi hj) hpa (by rw [hx0.1]; exact hy) (fun _ => by rw [st_un nse]; exact sb) (by omega)
          refine br_t (by show ar_n kd (nI (pn (2 * q))).toNatClampNeg = 1; rw [ar_nc _ (by omega), ks]; rfl) (in_c hsi ?_)
          show wpX_replaceLetters _ _ _ _ (ar_n sz (nI (pn (2 * q))).toNatClampNeg - nI (po (2 * q))) _
          rw [ar_nc _ (by omega), pk_sub (by omega)]
          refine xx_replaceLetters (k := 0) (d := 0) T P.1 hs (by omega) (by omega) s12 (Or.inl ⟨rfl, rfl, rfl⟩) ?_
          refine bx _ _ rl rn oa ca il dm _ hdm ?_
          refine YF _ ?_
          intro ln mk os cs cm S E hS
          refine in_c hsi (br_f (by rw [ar_nc _ (by omega), ks]; decide) (in_c hsi ?_))
          rw [ar_nc _ (by omega), pk_sub (by omega)]
          refine yy_exchange (k := 0) T P.1 hs (by omega) (by omega) s12 (by omega) ?_
          refine by' ln mk os cs cm _ S (fun i hi => (E _ (hd i hi).1 (LD.1 i hi).2.1.1).1) hS ?_
          exact ⟨rfl, rel_mk T3 P3⟩
        · have k0 := (tr_k1 T hs).resolve_right ks
          obtain ⟨pa', sz', it', pn', po', T3, P3, bx, by'⟩ := er_all (e := pn (2 * q + 1)) (b := po (2 * q + 1)) (y := y) hd LD.2.1 m24 hx kx he hq T P hch hpa hy (fun _ => sb) (by omega)
          refine br_f (by show ¬ ar_n kd (nI (pn (2 * q))).toNatClampNeg = 1; rw [ar_nc _ (by omega), k0]; decide) ?_
          refine bx _ _ rl rn oa ca il dm _ hdm ?_
          refine YF _ ?_
          intro ln mk os cs cm S E hS
          refine in_c hsi (br_t (by rw [ar_nc _ (by omega), k0]; rfl) ?_)
          refine by' ln mk os cs cm _ S (fun i hi => (E _ (hd i hi).1 (LD.1 i hi).2.1.1).1) hS ?_
          exact ⟨rfl, rel_mk T3 P3⟩
  · unfold wpX_erase
    dsimp only
    refine xx_isRange_f h (br_t rfl ?_)
    unfold wpY_erase
    dsimp only
    exact yy_isRange_f h (br_t rfl ⟨rfl, J⟩)
