/-! erase: the branch, the takeOuts in step, the end -/
theorem cb_j {c : Nat} {kd pa sz it : Nat → Nat} (T : tr_T c kd pa sz it) {s e r : Nat} (he : e < c) (pr : pa r = 0) (ws : tr_w pa (s + 1) r) (we : tr_w pa (e + 1) r) :
    ∀ d k v, k + d = 24 → v < c → tr_c pa d (v + 1) = 0 → tr_w pa (s + 1) v → ¬ tr_w pa (e + 1) v →
    ∃ b p, b < c ∧ pa b = p + 1 ∧ tr_w pa (s + 1) b ∧
      (∀ (pn po : Nat → Nat) (sg eg : Int32) (rl rn oa ca il dm : Nat → Int32) (post : Int32 → Prop), post (nI b) → wX_branchOf_5 post (nI e) (nI c) sg eg (ar_n kd) (ar_p pa) (ar_n sz) (ar_n it) (ar_n pn) (ar_n po) rl rn oa ca il dm (d + 1) (nI v) (nI k)) ∧
      (∀ (pn po : Nat → Nat) (ln : Int32) (mk os cs cm : Nat → Int32) (post : Int32 → SY → Prop) (x1 x2 x3 x5 x6 : Int32), wY_erase_176 post x1 x2 x3 (nI e) x5 x6 (nI b) (nI c) ln (ar_n kd) (ar_p pa) (ar_n sz) (ar_n it) (ar_n pn) (ar_n po) mk os cs cm → wY_erase_126 post x1 x2 x3 (nI e) x5 x6 (nI c) ln (ar_n kd) (ar_p pa) (ar_n sz) (ar_n it) (ar_n pn) (ar_n po) mk os cs cm (d + 1) (nI v)) := by
  have c24 := tr_c24 T
  intro d
  induction d with
  | zero => intro k v _ _ h0 _ _; exact absurd h0 (by show v + 1 ≠ 0; omega)
  | succ d ih =>
    intro k v hk hv h0 w nw
    have hvi : vp_in (nI v) 24 := vp_in_nI (by omega) (by omega)
    cases ep : pa v with
    | zero =>
      have := tr_t1 ep pr w ws
      subst this
      exact absurd we nw
    | succ p =>
      have hp := (tr_pe T hv ep).1
      have e1 : ar_p pa (nI v).toNatClampNeg = nI p := by rw [ar_pc _ (by omega), ep, nI_pred]
      have e2 : ¬ nI p = -1 := nj_m1 (by omega)
      have e3 : ¬ nI p < 0 := nI_pos (by omega)
      by_cases z : tr_w pa (e + 1) p
      · refine ⟨v, p, hv, ep, w, ?_, ?_⟩
        · intro pn po sg eg rl rn oa ca il dm post hpost
          refine br_f (nI_ge (b := 24) (by omega) (by omega)) (in_c hvi ?_)
          rw [e1]
          exact br_f e2 (in_c hvi (xx_isWithin T he hp (fun _ => br_f (by decide) hpost) (fun q => absurd z q)))
        · intro pn po ln mk os cs cm post x1 x2 x3 x5 x6 h
          refine in_c hvi ?_
          rw [e1]
          refine br_f e3 (in_c hvi (cb_i (nI_eq (by omega) (by omega)) (fun _ => h) (fun q => in_c hvi (yy_isBelow T he hp (fun _ => br_f (by decide) h) (fun q2 => ?_)))))
          rcases tr_wc z with y | y
          · exact absurd y.symm q
          · exact absurd y q2
      · obtain ⟨b, pb, hb, epb, wb, ax, ay⟩ := ih (k + 1) p (by omega) hp (by rw [← ep]; exact h0) (tr_wt w (tr_wp ep (tr_wr _ _))) z
        refine ⟨b, pb, hb, epb, wb, ?_, ?_⟩
        · intro pn po sg eg rl rn oa ca il dm post hpost
          refine br_f (nI_ge (b := 24) (by omega) (by omega)) (in_c hvi ?_)
          rw [e1]
          exact br_f e2 (in_c hvi (xx_isWithin T he hp (fun q => absurd q z) (fun _ => br_t rfl (in_c hvi (nm_e (nm_r (nI_1 k) (ax pn po sg eg rl rn oa ca il dm post hpost)))))))
        · intro pn po ln mk os cs cm post x1 x2 x3 x5 x6 h
          refine in_c hvi ?_
          rw [e1]
          refine br_f e3 (in_c hvi (cb_i (nI_eq (by omega) (by omega)) (fun q => ?_) (fun q => in_c hvi (yy_isBelow T he hp (fun q2 => absurd (tr_ws q2) z) (fun _ => br_t rfl (in_c hvi (nm_e (ay pn po ln mk os cs cm post x1 x2 x3 x5 x6 h))))))))
          subst q
          exact absurd (tr_wr _ _) z
/-- where both places go, x and y, on both sides -/
theorem er_xy {c : Nat} {kd pa sz it pn po L op N : Nat → Nat} (T : tr_T c kd pa sz it) (P : pl_P c kd pa sz it pn po) (Q : ly_Q c kd pa sz it L op N) {q r : Nat} (hq : q < 4) (pr : pa r = 0) (ws : tr_w pa (pn (2 * q) + 1) r) (we : tr_w pa (pn (2 * q + 1) + 1) r) (nt : ¬ (pn (2 * q) = pn (2 * q + 1) ∧ kd (pn (2 * q)) = 1)) :
    ∃ x y, x < c ∧ kd x = 0 ∧ y ≤ sz x ∧ (∀ j, j < y → op (it (24 * x + j)) < ly_g kd it L op (pn (2 * q)) (po (2 * q))) ∧
      (∀ (sg eg : Int32) (rl rn oa ca il dm : Nat → Int32) (post : Int32 → SX → Prop), wX_eraseAcross_84 post (nI q) (nI (2 * q)) (nI (pn (2 * q))) (nI (po (2 * q))) (nI (pn (2 * q + 1))) (nI (po (2 * q + 1))) (nI x) (nI y) (nI c) sg eg (ar_n kd) (ar_p pa) (ar_n sz) (ar_n it) (ar_n pn) (ar_n po) rl rn oa ca il dm → wpX_eraseAcross post (nI c, sg, eg, ar_n kd, ar_p pa, ar_n sz, ar_n it, ar_n pn, ar_n po, rl, rn, oa, ca, il, dm) (nI q)) ∧
      (∀ (ln : Int32) (mk os cs cm : Nat → Int32) (post : Int32 → SY → Prop) (S : Int32), wY_erase_195 post (nI q) (nI (pn (2 * q))) (nI (po (2 * q))) (nI (pn (2 * q + 1))) (nI (po (2 * q + 1))) S (nI x) (nI y) (nI c) ln (ar_n kd) (ar_p pa) (ar_n sz) (ar_n it) (ar_n pn) (ar_n po) mk os cs cm →
        ((nI (pn (2 * q + 1)) = nI (pn (2 * q)) → wY_erase_195 post (nI q) (nI (pn (2 * q))) (nI (po (2 * q))) (nI (pn (2 * q + 1))) (nI (po (2 * q + 1))) S (nI (pn (2 * q))) (nI (po (2 * q))) (nI c) ln (ar_n kd) (ar_p pa) (ar_n sz) (ar_n it) (ar_n pn) (ar_n po) mk os cs cm) ∧ (¬ nI (pn (2 * q + 1)) = nI (pn (2 * q)) → wpY_isBelow (fun r_100 => ((r_100 = 0 → (∃ n126 : Nat, wY_erase_126 post (nI q) (nI (pn (2 * q))) (nI (po (2 * q))) (nI (pn (2 * q + 1))) (nI (po (2 * q + 1))) S (nI c) ln (ar_n kd) (ar_p pa) (ar_n sz) (ar_n it) (ar_n pn) (ar_n po) mk os cs cm n126 (nI (pn (2 * q))))) ∧ (¬ r_100 = 0 → wY_erase_195 post (nI q) (nI (pn (2 * q))) (nI (po (2 * q))) (nI (pn (2 * q + 1))) (nI (po (2 * q + 1))) S (nI (pn (2 * q))) (nI (po (2 * q))) (nI c) ln (ar_n kd) (ar_p pa) (ar_n sz) (ar_n it) (ar_n pn) (ar_n po) mk os cs cm))) (nI c, ln, ar_n kd, ar_p pa, ar_n sz, ar_n it, ar_n pn, ar_n po, mk, os, cs, cm) (nI (pn (2 * q + 1))) (nI (pn (2 * q)))))) := by
  have c24 := tr_c24 T
  have va := P.1 (2 * q) (by omega)
  have vb := P.1 (2 * q + 1) (by omega)
  have hs := va.1
  have he := vb.1
  have hi0 : vp_in (nI (2 * q)) 8 := vp_in_nI (by omega) (by omega)
  have hi1 : vp_in (nI (2 * q + 1)) 8 := vp_in_nI (by omega) (by omega)
  have XW : ∀ (sg eg : Int32) (rl rn oa ca il dm : Nat → Int32) (post : Int32 → SX → Prop), wpX_isWithin (fun r_10 => (((r_10 = 0 → (wpX_branchOf (fun r_147 => (vp_in r_147 24 ∧ (∀ x7_164 : Int32, x7_164 = (ar_p pa) r_147.toNatClampNeg → (wpX_indexOf (fun r_165 => (∀ x8_181 : Int32, x8_181 = r_165 + 1 → (wX_eraseAcross_84 post (nI q) (nI (2 * q)) (nI (pn (2 * q))) (nI (po (2 * q))) (nI (pn (2 * q + 1))) (nI (po (2 * q + 1))) x7_164 x8_181 (nI c) sg eg (ar_n kd) (ar_p pa) (ar_n sz) (ar_n it) (ar_n pn) (ar_n po) rl rn oa ca il dm))) (nI c, sg, eg, ar_n kd, ar_p pa, ar_n sz, ar_n it, ar_n pn, ar_n po, rl, rn, oa, ca, il, dm) r_147)))) (nI c, sg, eg, ar_n kd, ar_p pa, ar_n sz, ar_n it, ar_n pn, ar_n po, rl, rn, oa, ca, il, dm) (nI (pn (2 * q))) (nI (pn (2 * q + 1))))) ∧ (¬ r_10 = 0 → (wX_eraseAcross_84 post (nI q) (nI (2 * q)) (nI (pn (2 * q))) (nI (po (2 * q))) (nI (pn (2 * q + 1))) (nI (po (2 * q + 1))) (nI (pn (2 * q))) (nI (po (2 * q))) (nI c) sg eg (ar_n kd) (ar_p pa) (ar_n sz) (ar_n it) (ar_n pn) (ar_n po) rl rn oa ca il dm))))) (nI c, sg, eg, ar_n kd, ar_p pa, ar_n sz, ar_n it, ar_n pn, ar_n po, rl, rn, oa, ca, il, dm) (nI (pn (2 * q + 1))) (nI (pn (2 * q))) → wpX_eraseAcross post (nI c, sg, eg, ar_n kd, ar_p pa, ar_n sz, ar_n it, ar_n pn, ar_n po, rl, rn, oa, ca, il, dm) (nI q) := by
    intro sg eg rl rn oa ca il dm post h
    refine nm_r (ix_2x q) ?_
    rw [nI_1 (2 * q)]
    exact in_c hi0 (nm_r (ar_nc _ (by omega)) (in_c hi0 (nm_r (ar_nc _ (by omega)) (in_c hi1 (nm_r (ar_nc _ (by omega)) (in_c hi1 (nm_r (ar_nc _ (by omega)) h)))))))
  by_cases z : tr_w pa (pn (2 * q + 1) + 1) (pn (2 * q))
  · have k0 : kd (pn (2 * q)) = 0 := by
      rcases tr_k1 T hs with k | k
      · exact k
      · exact absurd ⟨(pl_wtx T he k z).symm, k⟩ nt
    refine ⟨pn (2 * q), po (2 * q), hs, k0, va.2, ?_, ?_, ?_⟩
    · intro j hj
      have ho := va.2
      have opc := ly_ch Q hs k0 (i := j) (by omega)
      have l2 := ly_L2 Q T (tr_ch T hs k0 (i := j) (by omega)).1
      have sm := ly_sm (fun j => L (it (24 * pn (2 * q) + j))) (i := j + 1) (j := po (2 * q)) (by omega)
      have e3 : ly_s (fun j => L (it (24 * pn (2 * q) + j))) (j + 1) = ly_s (fun j => L (it (24 * pn (2 * q) + j))) j + L (it (24 * pn (2 * q) + j)) := rfl
      unfold ly_g
      rw [if_neg (by omega)]
      omega
    · intro sg eg rl rn oa ca il dm post h
      exact XW sg eg rl rn oa ca il dm post (xx_isWithin T he hs (fun _ => br_f (by decide) h) (fun q => absurd z q))
    · intro ln mk os cs cm post S h
      refine cb_i (nI_eq (by omega) (by omega)) (fun _ => h) (fun ne => yy_isBelow T he hs (fun _ => br_f (by decide) h) (fun q2 => ?_))
      rcases tr_wc z with y | y
      · exact absurd y ne
      · exact absurd y q2
  · obtain ⟨b, p, hb, epb, wb, ax, ay⟩ := cb_j T he pr ws we 24 0 (pn (2 * q)) rfl hs (tr_dp T hs) (tr_wr _ _) z
    obtain ⟨hp, kp, i, hi, hbi⟩ := tr_pe T hb epb
    refine ⟨p, i + 1, hp, kp, hi, ?_, ?_, ?_⟩
    · intro j hj
      have opi := ly_ch Q hp kp hi
      have opj := ly_ch Q hp kp (i := j) (by omega)
      have sm := ly_sm (fun j => L (it (24 * p + j))) (i := j) (j := i) (by omega)
      have inn := ly_in Q T hs wb
      have gb := ly_gb Q T va
      rw [hbi] at opi
      omega
    · intro sg eg rl rn oa ca il dm post h
      refine XW sg eg rl rn oa ca il dm post (xx_isWithin T he hs (fun q => absurd q z) (fun _ => br_t rfl ⟨25, ax pn po sg eg rl rn oa ca il dm _ ?_⟩))
      exact in_c (vp_in_nI (by omega) (by omega)) (nm_r ((ar_pc _ (by omega)).trans (by rw [epb, nI_pred])) (xx_indexOf T hb epb hi hbi (nm_r (nI_1 i) h)))
    · intro ln mk os cs cm post S h
      refine br_f (fun y => ?_) (yy_isBelow T he hs (fun q2 => absurd (tr_ws q2) z) (fun _ => br_t rfl ⟨25, ay pn po ln mk os cs cm post _ _ _ _ _ ?_⟩))
      · rw [nI_eq (by omega) (by omega)] at y
        exact z (by rw [y]; exact tr_wr _ _)
      · exact in_c (vp_in_nI (by omega) (by omega)) (nm_r ((ar_pc _ (by omega)).trans (by rw [epb, nI_pred])) (yy_indexOf T hb epb hi hbi (nm_r (nI_1 i) h)))
/-- the doomed are taken out, one after the other, on both sides -/
theorem er_take {c : Nat} {kd op : Nat → Nat} {m : Nat} {dl : Nat → Nat} (hd : ∀ i, i < m → dl i < c ∧ op (dl i) < 1000) (inc : ∀ i j, i < j → j < m → op (dl i) < op (dl j)) (m24 : m ≤ 24) {x y e se : Nat} (hx : x < c) (kx : kd x = 0) {ch : Nat → Nat} (hch : ∀ i j, i < m → j < y → dl i ≠ ch j) :
    ∀ d j (pa sz it pn po : Nat → Nat), j + d = m → tr_T c kd pa sz it → pl_P c kd pa sz it pn po → (∀ i, j ≤ i → i < m → pa (dl i) ≠ 0) → y ≤ sz x → (∀ i, i < y → it (24 * x + i) = ch i) → (kd e = 1 → sz e = se) →
    ∃ pa' sz' it' pn' po' : Nat → Nat, tr_T c kd pa' sz' it' ∧ pl_P c kd pa' sz' it' pn' po' ∧ y ≤ sz' x ∧ (kd e = 1 → sz' e = se) ∧
      (∀ (sg eg : Int32) (rl rn oa ca il dm : Nat → Int32) (post : Int32 → SX → Prop) (x2 x5 x6 x7 x8 : Int32), (∀ i, i < m → dm i = nI (dl i)) → wX_eraseAcross_125 post x2 x5 x6 x7 x8 (nI m) 1 (nI m) (nI c) sg eg (ar_n kd) (ar_p pa') (ar_n sz') (ar_n it') (ar_n pn') (ar_n po') rl rn oa ca il dm → wX_eraseAcross_125 post x2 x5 x6 x7 x8 (nI m) (d + 1) (nI j) (nI c) sg eg (ar_n kd) (ar_p pa) (ar_n sz) (ar_n it) (ar_n pn) (ar_n po) rl rn oa ca il dm) ∧
      (∀ (ln : Int32) (mk os cs cm : Nat → Int32) (post : Int32 → SY → Prop) (X : Int32), (∀ i, i < m → os (dl i) = nI (op (dl i))) → (∀ i, i < 32 → (bt X i = true ↔ ∃ i', j ≤ i' ∧ i' < m ∧ dl i' = i)) → post (nI m) (nI c, ln, ar_n kd, ar_p pa', ar_n sz', ar_n it', ar_n pn', ar_n po', mk, os, cs, cm) → wY_takeAll_7 post (d + 1) X (nI j) (nI j) (nI c) ln (ar_n kd) (ar_p pa) (ar_n sz) (ar_n it) (ar_n pn) (ar_n po) mk os cs cm) := by
  intro d
  induction d with
  | zero =>
    intro j pa sz it pn po hj T P hpa hy hit hse
    obtain rfl : j = m := by omega
    refine ⟨pa, sz, it, pn, po, T, P, hy, hse, fun _ _ _ _ _ _ _ _ _ _ _ _ _ _ _ h => h, ?_⟩
    intro ln mk os cs cm post X _ hX hp
    refine br_c (fun _ => hp) (fun _ => br_t (bb_no fun i hi z => ?_) hp)
    obtain ⟨i', h1, h2, _⟩ := (hX i hi).mp z
    omega
  | succ d ih =>
    intro j pa sz it pn po hj T P hpa hy hit hse
    have c24 := tr_c24 T
    have hjm : j < m := by omega
    have hn := (hd j hjm).1
    obtain ⟨p, ep⟩ : ∃ p, pa (dl j) = p + 1 := by
      cases e : pa (dl j) with
      | zero => exact absurd e (hpa j (Nat.le_refl _) hjm)
      | succ p => exact ⟨p, rfl⟩
    obtain ⟨hp, kp, i, hi, he⟩ := tr_pe T hn ep
    have T1 := tr_Ttake T hn ep hi he
    have P1 := pl_Ptk T hn ep hi he P
    have s24 := tr_s24 T hp
    have sx24 := tr_s24 T hx
    have iy : p = x → y ≤ i := by
      intro e
      subst e
      apply Classical.byContradiction
      intro q
      exact hch j i hjm (by omega) (by rw [← hit i (by omega), he])
    have ndl : ∀ a b, a < m → b < m → dl a = dl b → a = b := by
      intro a b ha hb e
      rcases Nat.lt_trichotomy a b with l | l | l
      · have := inc a b l hb; rw [e] at this; omega
      · exact l
      · have := inc b a l ha; rw [e] at this; omega
    obtain ⟨pa', sz', it', pn', po', T', P', hy', hse', ax, ay⟩ := ih (j + 1) _ _ _ _ _ (by omega) T1 P1 (by
      intro i' h1 h2
      rw [st_un (fun q => by have := ndl i' j h2 hjm q; omega)]
      exact hpa i' (by omega) h2) (by
      by_cases e : x = p
      · have := iy e.symm
        subst e; rw [st_us]; omega
      · rw [st_un e]; exact hy) (by
      intro i' hi'
      by_cases e : x = p
      · have := iy e.symm
        subst e; rw [mv_lb it (by omega)]; exact hit i' hi'
      · rw [mv_lo it e (by omega) (by omega) (by omega)]; exact hit i' hi') (by
      intro ke
      rw [st_un (by rintro rfl; omega)]
      exact hse ke)
    refine ⟨pa', sz', it', pn', po', T', P', hy', hse', ?_, ?_⟩
    · intro sg eg rl rn oa ca il dm post x2 x5 x6 x7 x8 hdm H
      refine br_f (nI_ge hjm (by omega)) (in_c (vp_in_nI (by omega) (by omega)) ?_)
      rw [nI_clamp (by omega), hdm j hjm]
      exact xx_takeOut T P.1 hn ep hi he (nm_r (nI_1 j) (ax sg eg rl rn oa ca il dm post x2 x5 x6 x7 x8 hdm H))
    · intro ln mk os cs cm post X hos hX hpost
      have bj : bt X (dl j) = true := (hX (dl j) (by omega)).mpr ⟨j, Nat.le_refl _, hjm, rfl⟩
      refine br_f (nI_ge (b := 24) (by omega) (by omega)) (br_f (bb_not0 bj) (yy_firstOf (op := op) (S := fun i => ∃ i', j ≤ i' ∧ i' < m ∧ dl i' = i) (b0 := dl j) c24 hX ?_ ⟨j, Nat.le_refl _, hjm, rfl⟩ ?_ ?_ ?_))
      · rintro _ ⟨i', h1, h2, rfl⟩
        exact ⟨(hd i' h2).1, hos i' h2, (hd i' h2).2⟩
      · rintro _ ⟨i', h1, h2, rfl⟩
        by_cases e : i' = j
        · rw [e]; exact Nat.le_refl _
        · have := inc j i' (by omega) h2; omega
      · rintro _ ⟨i', h1, h2, rfl⟩ e
        by_cases e2 : i' = j
        · rw [e2]
        · have := inc j i' (by omega) h2; omega
      · refine yy_takeOut T P.1 hn ep hi he (nm_e (nm_r (nI_1 j) (nm_r (nI_1 j) (ay ln mk os cs cm post _ hos ?_ hpost))))
        intro i' hi'
        rw [bb_clr X (dl j) (by omega) hi', hX i' hi']
        constructor
        · rintro ⟨⟨a, h1, h2, h3⟩, ne⟩
          refine ⟨a, ?_, h2, h3⟩
          have : a ≠ j := by rintro rfl; exact ne h3.symm
          omega
        · rintro ⟨a, h1, h2, h3⟩
          refine ⟨⟨a, by omega, h2, h3⟩, fun q => ?_⟩
          have := ndl a j h2 hjm (by rw [h3, q])
          omega
/-- and the end of erase -/
theorem er_all {c : Nat} {kd op : Nat → Nat} {m : Nat} {dl : Nat → Nat} (hd : ∀ i, i < m → dl i < c ∧ op (dl i) < 1000) (inc : ∀ i j, i < j → j < m → op (dl i) < op (dl j)) (m24 : m ≤ 24) {x y e b q : Nat} (hx : x < c) (kx : kd x = 0) (he : e < c) (hq : q < 4) {pa sz it pn po : Nat → Nat} (T : tr_T c kd pa sz it) (P : pl_P c kd pa sz it pn po)
    (hch : ∀ i j, i < m → j < y → dl i ≠ it (24 * x + j)) (hpa : ∀ i, i < m → pa (dl i) ≠ 0) (hy : y ≤ sz x) (hb : kd e = 1 → b ≤ sz e) (b24 : b < 100) :
    ∃ pa' sz' it' pn' po' : Nat → Nat, tr_T c kd pa' sz' it' ∧ pl_P c kd pa' sz' it' pn' po' ∧
      (∀ (sg eg : Int32) (rl rn oa ca il dm : Nat → Int32) (post : Int32 → SX → Prop), (∀ i, i < m → dm i = nI (dl i)) → post (nI m) (nI c, sg, eg, ar_n kd, ar_p pa', ar_n sz', ar_n it', ar_n pn', ar_n po', rl, rn, oa, ca, il, dm) → ∃ n125 : Nat, wX_eraseAcross_125 post (nI (2 * q)) (nI e) (nI b) (nI x) (nI y) (nI m) n125 0 (nI c) sg eg (ar_n kd) (ar_p pa) (ar_n sz) (ar_n it) (ar_n pn) (ar_n po) rl rn oa ca il dm) ∧
      (∀ (ln : Int32) (mk os cs cm : Nat → Int32) (post : Int32 → SY → Prop) (X : Int32), (∀ i, i < m → os (dl i) = nI (op (dl i))) → (∀ i, i < 32 → (bt X i = true ↔ ∃ i', i' < m ∧ dl i' = i)) → post (nI m) (nI c, ln, ar_n kd, ar_p pa', ar_n sz', ar_n it', ar_n pn', ar_n po', mk, os, cs, cm) → wY_erase_219 post (nI q) (nI e) (nI b) X (nI x) (nI y) (nI c) ln (ar_n kd) (ar_p pa) (ar_n sz) (ar_n it) (ar_n pn) (ar_n po) mk os cs cm) := by
  have c24 := tr_c24 T
  obtain ⟨pa', sz', it', pn', po', T', P', hy', hse', ax, ay⟩ := er_take (kd := kd) (e := e) (se := sz e) hd inc m24 hx kx (ch := fun j => it (24 * x + j)) hch m 0 pa sz it pn po (by omega) T P (fun i _ h => hpa i h) hy (fun _ _ => rfl) (fun _ => rfl)
  have hei : vp_in (nI e) 24 := vp_in_nI (by omega) (by omega)
  have tail : ∀ (sz1 it1 pn1 po1 : Nat → Nat), tr_T c kd pa' sz1 it1 → pl_P c kd pa' sz1 it1 pn1 po1 → y ≤ sz1 x →
      pl_P c kd pa' sz1 it1 (st_u (st_u pn1 (2 * q) x) (2 * q + 1) x) (st_u (st_u po1 (2 * q) y) (2 * q + 1) y) ∧
      (∀ (sg eg : Int32) (rl rn oa ca il dm : Nat → Int32) (post : Int32 → SX → Prop), post (nI m) (nI c, sg, eg, ar_n kd, ar_p pa', ar_n sz1, ar_n it1, ar_n (st_u (st_u pn1 (2 * q) x) (2 * q + 1) x), ar_n (st_u (st_u po1 (2 * q) y) (2 * q + 1) y), rl, rn, oa, ca, il, dm) → wX_eraseAcross_170 post (nI (2 * q)) (nI x) (nI y) (nI m) (nI c) sg eg (ar_n kd) (ar_p pa') (ar_n sz1) (ar_n it1) (ar_n pn1) (ar_n po1) rl rn oa ca il dm) ∧
      (∀ (ln : Int32) (mk os cs cm : Nat → Int32) (post : Int32 → SY → Prop), post (nI m) (nI c, ln, ar_n kd, ar_p pa', ar_n sz1, ar_n it1, ar_n (st_u (st_u pn1 (2 * q) x) (2 * q + 1) x), ar_n (st_u (st_u po1 (2 * q) y) (2 * q + 1) y), mk, os, cs, cm) → wY_erase_247 post (nI q) (nI x) (nI y) (nI m) (nI c) ln (ar_n kd) (ar_p pa') (ar_n sz1) (ar_n it1) (ar_n pn1) (ar_n po1) mk os cs cm) := by
    intro sz1 it1 pn1 po1 T1 P1 hy1
    refine ⟨?_, ?_, ?_⟩
    · have fa : ∀ (f : Nat → Nat) z, st_u (st_u f (2 * q) z) (2 * q + 1) z (2 * q) = z ∧ st_u (st_u f (2 * q) z) (2 * q + 1) z (2 * q + 1) = z := by
        intro f z
        exact ⟨by rw [st_un (by omega), st_us], st_us _ _ _⟩
      refine pl_set P1 hq (fun j h1 h2 => ?_) ?_ ?_ ?_
      · rw [st_un h2, st_un h1, st_un h2, st_un h1]; exact ⟨rfl, rfl⟩
      · rw [(fa pn1 x).1, (fa po1 y).1]; exact ⟨hx, hy1⟩
      · rw [(fa pn1 x).2, (fa po1 y).2]; exact ⟨hx, hy1⟩
      · rw [(fa pn1 x).1, (fa po1 y).1, (fa pn1 x).2, (fa po1 y).2]; exact pl_Rr T1 hx
    · intro sg eg rl rn oa ca il dm post h
      unfold wX_eraseAcross_170
      rw [nI_1]
      exact xx_setPlace (by omega) rfl rfl (xx_setPlace (by omega) rfl rfl h)
    · intro ln mk os cs cm post h
      unfold wY_erase_247
      rw [ix_2y, nI_1]
      refine in_c (vp_in_nI (by omega) (by omega)) (nm_r (e' := ar_n (st_u pn1 (2 * q) x)) (by rw [nI_clamp (by omega), ar_nu]) (in_c (vp_in_nI (by omega) (by omega)) (nm_r (e' := ar_n (st_u po1 (2 * q) y)) (by rw [nI_clamp (by omega), ar_nu]) (yy_copyPlace (by omega) (by omega) ?_))))
      rw [st_us, st_us]
      exact h
  have bits : ∀ X : Int32, (∀ i, i < 32 → (bt X i = true ↔ ∃ i', i' < m ∧ dl i' = i)) → ∀ i, i < 32 → (bt X i = true ↔ ∃ i', 0 ≤ i' ∧ i' < m ∧ dl i' = i) := by
    intro X h i hi
    rw [h i hi]
    exact ⟨fun ⟨a, b, c⟩ => ⟨a, by omega, b, c⟩, fun ⟨a, _, b, c⟩ => ⟨a, b, c⟩⟩
  by_cases ke : kd e = 1
  · have s12 := (T'.2.2.1 e he ke).1
    have hb' : 0 + b ≤ sz' e := by rw [hse' ke]; have := hb ke; omega
    obtain ⟨T2, P2⟩ := ex_TP T' P' (t := e) (a := 0) (g := b) (k := 0) (d := 0) he ke hb' (by omega)
    have hy2 : y ≤ st_u sz' e (sz' e + 0 - b) x := by rw [st_un (by rintro rfl; omega)]; exact hy'
    obtain ⟨P3, tx, ty⟩ := tail _ _ _ _ T2 P2 hy2
    refine ⟨_, _, _, _, _, T2, P3, ?_, ?_⟩
    · intro sg eg rl rn oa ca il dm post hdm h
      refine ⟨m + 1, ax sg eg rl rn oa ca il dm post _ _ _ _ _ hdm (br_t (nI_le (Nat.le_refl _) (by omega)) (in_c hei (br_t (by rw [ar_nc _ (by omega), ke]; rfl) ?_)))⟩
      exact xx_replaceLetters (a := 0) (k := 0) (d := 0) T' P'.1 he hb' (by omega) s12 (Or.inl ⟨rfl, rfl, rfl⟩) (tx sg eg rl rn oa ca il dm post h)
    · intro ln mk os cs cm post X hos hX h
      refine ⟨m + 1, ay ln mk os cs cm _ X hos (bits X hX) (in_c hei (br_f (by rw [ar_nc _ (by omega), ke]; decide) ?_))⟩
      exact yy_exchange (a := 0) (k := 0) T' P'.1 he hb' (by omega) s12 (by omega) (ty ln mk os cs cm post h)
  · have ke0 : kd e = 0 := (tr_k1 T he).resolve_right ke
    obtain ⟨P3, tx, ty⟩ := tail _ _ _ _ T' P' hy'
    refine ⟨_, _, _, _, _, T', P3, ?_, ?_⟩
    · intro sg eg rl rn oa ca il dm post hdm h
      exact ⟨m + 1, ax sg eg rl rn oa ca il dm post _ _ _ _ _ hdm (br_t (nI_le (Nat.le_refl _) (by omega)) (in_c hei (br_f (by rw [ar_nc _ (by omega), ke0]; decide) (tx sg eg rl rn oa ca il dm post h))))⟩
    · intro ln mk os cs cm post X hos hX h
      exact ⟨m + 1, ay ln mk os cs cm _ X hos (bits X hX) (in_c hei (br_t (by rw [ar_nc _ (by omega), ke0]; rfl) (ty ln mk os cs cm post h)))⟩
