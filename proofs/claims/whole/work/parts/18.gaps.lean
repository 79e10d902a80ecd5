/-! gaps, the order of places, compare, setStart, setEnd -/
theorem xx_gapOf {c : Nat} {kd pa sz it pn po : Nat → Nat} {sg eg : Int32} {rl rn oa ca il dm : Nat → Int32} {L op N : Nat → Nat} {post : Int32 → Prop} {r k : Nat} (Q : ly_Q c kd pa sz it L op N) (T : tr_T c kd pa sz it) (D : ∀ m, m < c → tr_w pa (m + 1) r → rw_D kd sz it L op rl rn oa ca m) (hk : k < 8) (V : pl_ok c sz (pn k) (po k)) (w : tr_w pa (pn k + 1) r) (h : post (nI (ly_g kd it L op (pn k) (po k)))) : wpX_gapOf post (nI c, sg, eg, ar_n kd, ar_p pa, ar_n sz, ar_n it, ar_n pn, ar_n po, rl, rn, oa, ca, il, dm) (nI k) := by
  have c24 := tr_c24 T
  have hv := V.1
  have ho := V.2
  have s24 := tr_s24 T hv
  have hki : vp_in (nI k) 8 := vp_in_nI hk (by omega)
  have hvi : vp_in (nI (pn k)) 24 := vp_in_nI (by omega) (by omega)
  have Dv := D _ hv w
  have g28 : (kd (pn k) = 1 ∨ po k = 0) → wX_gapOf_28 post (nI (pn k)) (nI (po k)) (nI c) sg eg (ar_n kd) (ar_p pa) (ar_n sz) (ar_n it) (ar_n pn) (ar_n po) rl rn oa ca il dm := by
    intro q
    refine in_c hvi ?_
    rw [nI_clamp (by omega), Dv.1, nI_1, nI_add]
    unfold ly_g at h
    rcases q with q | q
    · rw [if_pos q] at h; exact h
    · rw [q] at h ⊢
      by_cases q2 : kd (pn k) = 1
      · rw [if_pos q2] at h; exact h
      · rw [if_neg q2] at h; exact h
  refine in_c hki (nm_r (ar_nc _ (by omega)) (in_c hki (nm_r (ar_nc _ (by omega)) (cb_i (d := po k = 0) ?_ (fun e => g28 (Or.inr e)) (fun e => in_c hvi ?_)))))
  · exact nI_eq (b := 0) (by omega) (by omega)
  · rw [ar_nc _ (by omega)]
    rcases tr_k1 T hv with k0 | k1
    · rw [k0]
      refine br_f (by decide) ?_
      rw [ix_x, show nI (24 * pn k + po k) - 1 = nI (24 * pn k + (po k - 1)) from by rw [show 24 * pn k + (po k - 1) = 24 * pn k + po k - 1 by omega]; exact pk_sub (b := 1) (by omega)]
      have ch := tr_ch T hv k0 (i := po k - 1) (by omega)
      have opc := ly_ch Q hv k0 (i := po k - 1) (by omega)
      have Dm := D _ ch.1 (tr_wp ch.2 w)
      have l2 := ly_L2 Q T ch.1
      refine in_c (vp_in_nI (by omega) (by omega)) (nm_r (ar_nc _ (by omega)) (in_c (vp_in_nI (by omega) (by omega)) ?_))
      rw [nI_clamp (by omega), Dm.2.1, nI_1]
      unfold ly_g at h
      rw [if_neg (by omega)] at h
      have e3 : ly_s (fun j => L (it (24 * pn k + j))) (po k - 1 + 1) = ly_s (fun j => L (it (24 * pn k + j))) (po k - 1) + L (it (24 * pn k + (po k - 1))) := rfl
      rw [show po k - 1 + 1 = po k by omega] at e3
      rw [show op (it (24 * pn k + (po k - 1))) + L (it (24 * pn k + (po k - 1))) - 1 + 1 = op (pn k) + 1 + ly_s (fun j => L (it (24 * pn k + j))) (po k) by omega]
      exact h
    · rw [k1]
      exact br_t rfl (g28 (Or.inl k1))
theorem yy_gap {c : Nat} {kd pa sz it pn po : Nat → Nat} {ln : Int32} {mk os cs cm : Nat → Int32} {L op N : Nat → Nat} {post : Int32 → Prop} {r k : Nat} (Q : ly_Q c kd pa sz it L op N) (T : tr_T c kd pa sz it) (D : ∀ m, m < c → tr_w pa (m + 1) r → rw_E kd sz it L op mk os cs m) (hk : k < 8) (V : pl_ok c sz (pn k) (po k)) (w : tr_w pa (pn k + 1) r) (h : post (nI (ly_g kd it L op (pn k) (po k)))) : wpY_gap post (nI c, ln, ar_n kd, ar_p pa, ar_n sz, ar_n it, ar_n pn, ar_n po, mk, os, cs, cm) (nI k) := by
  have c24 := tr_c24 T
  have hv := V.1
  have ho := V.2
  have s24 := tr_s24 T hv
  have hki : vp_in (nI k) 8 := vp_in_nI hk (by omega)
  have hvi : vp_in (nI (pn k)) 24 := vp_in_nI (by omega) (by omega)
  have Dv := D _ hv w
  have g28 : (kd (pn k) = 1 ∨ po k = 0) → wY_gap_27 post (nI (pn k)) (nI (po k)) (nI c) ln (ar_n kd) (ar_p pa) (ar_n sz) (ar_n it) (ar_n pn) (ar_n po) mk os cs cm := by
    intro q
    refine in_c hvi ?_
    rw [nI_clamp (by omega), Dv.1, nI_1, nI_add]
    unfold ly_g at h
    rcases q with q | q
    · rw [if_pos q] at h; exact h
    · rw [q] at h ⊢
      by_cases q2 : kd (pn k) = 1
      · rw [if_pos q2] at h; exact h
      · rw [if_neg q2] at h; exact h
  refine in_c hki (nm_r (ar_nc _ (by omega)) (in_c hki (nm_r (ar_nc _ (by omega)) (in_c hvi ?_))))
  rw [ar_nc _ (by omega)]
  rcases tr_k1 T hv with k0 | k1
  · rw [k0]
    refine br_t rfl (cb_i (d := po k = 0) (nI_eq (b := 0) (by omega) (by omega)) (fun e => g28 (Or.inr e)) (fun e => ?_))
    rw [ix_y, show nI (24 * pn k + po k) - 1 = nI (24 * pn k + (po k - 1)) from by rw [show 24 * pn k + (po k - 1) = 24 * pn k + po k - 1 by omega]; exact pk_sub (b := 1) (by omega)]
    have ch := tr_ch T hv k0 (i := po k - 1) (by omega)
    have opc := ly_ch Q hv k0 (i := po k - 1) (by omega)
    have Dm := D _ ch.1 (tr_wp ch.2 w)
    have l2 := ly_L2 Q T ch.1
    rw [ar_nc _ (by omega)]
    refine in_c (vp_in_nI (by omega) (by omega)) (in_c (vp_in_nI (by omega) (by omega)) ?_)
    rw [nI_clamp (by omega), Dm.2.1, nI_1]
    unfold ly_g at h
    rw [if_neg (by omega)] at h
    have e3 : ly_s (fun j => L (it (24 * pn k + j))) (po k - 1 + 1) = ly_s (fun j => L (it (24 * pn k + j))) (po k - 1) + L (it (24 * pn k + (po k - 1))) := rfl
    rw [show po k - 1 + 1 = po k by omega] at e3
    rw [show op (it (24 * pn k + (po k - 1))) + L (it (24 * pn k + (po k - 1))) - 1 + 1 = op (pn k) + 1 + ly_s (fun j => L (it (24 * pn k + j))) (po k) by omega]
    exact h
  · rw [k1]
    exact br_f (by decide) (g28 (Or.inl k1))
/-- gaps lie inside the row -/
theorem ly_gr {c : Nat} {kd pa sz it L op N : Nat → Nat} (Q : ly_Q c kd pa sz it L op N) (T : tr_T c kd pa sz it) {v o r : Nat} (V : pl_ok c sz v o) (hr : r < c) (pr : pa r = 0) (w : tr_w pa (v + 1) r) : 0 < ly_g kd it L op v o ∧ ly_g kd it L op v o < L r ∧ L r ≤ 336 := by
  have a := ly_gb Q T V
  have b := ly_in Q T V.1 w
  have o0 := Q.2.2.1 r hr pr
  have l := Q.2.2.2.2.1 r hr
  omega
def cp_c (a b : Nat) : Int32 := if a = b then 0 else if a < b then -1 else 1
theorem xx_order_ne {c : Nat} {kd pa sz it pn po : Nat → Nat} {sg eg : Int32} {rl rn oa ca il dm : Nat → Int32} {post : Int32 → SX → Prop} {a b r r' : Nat} (T : tr_T c kd pa sz it) (V : ∀ k, k < 8 → pl_ok c sz (pn k) (po k)) (ha : a < 8) (hb : b < 8) (pr : pa r = 0) (w : tr_w pa (pn a + 1) r) (pr' : pa r' = 0) (w' : tr_w pa (pn b + 1) r') (ne : r ≠ r') (h : post 2 (nI c, sg, eg, ar_n kd, ar_p pa, ar_n sz, ar_n it, ar_n pn, ar_n po, rl, rn, oa, ca, il, dm)) : wpX_placeOrder post (nI c, sg, eg, ar_n kd, ar_p pa, ar_n sz, ar_n it, ar_n pn, ar_n po, rl, rn, oa, ca, il, dm) (nI a) (nI b) := by
  have c24 := tr_c24 T
  have h1 := tr_lt T (V a ha).1 w
  have h2 := tr_lt T (V b hb).1 w'
  refine in_c (vp_in_nI ha (by omega)) ?_
  rw [ar_nc pn (i := a) (by omega)]
  refine xx_topOf T (V a ha).1 pr w (in_c (vp_in_nI hb (by omega)) ?_)
  rw [ar_nc pn (i := b) (by omega)]
  refine xx_topOf T (V b hb).1 pr' w' (br_f ?_ h)
  rw [nI_eq (by omega) (by omega)]; exact ne
theorem xx_order_eq {c : Nat} {kd pa sz it pn po : Nat → Nat} {sg eg : Int32} {rl rn oa ca il dm : Nat → Int32} {L op N : Nat → Nat} {post : Int32 → SX → Prop} {a b r : Nat} (Q : ly_Q c kd pa sz it L op N) (T : tr_T c kd pa sz it) (V : ∀ k, k < 8 → pl_ok c sz (pn k) (po k)) (ha : a < 8) (hb : b < 8) (pr : pa r = 0) (w : tr_w pa (pn a + 1) r) (w' : tr_w pa (pn b + 1) r) (h : ∀ rl rn oa ca il, post (cp_c (ly_g kd it L op (pn a) (po a)) (ly_g kd it L op (pn b) (po b))) (nI c, sg, eg, ar_n kd, ar_p pa, ar_n sz, ar_n it, ar_n pn, ar_n po, rl, rn, oa, ca, il, dm)) : wpX_placeOrder post (nI c, sg, eg, ar_n kd, ar_p pa, ar_n sz, ar_n it, ar_n pn, ar_n po, rl, rn, oa, ca, il, dm) (nI a) (nI b) := by
  have c24 := tr_c24 T
  have hr := tr_lt T (V a ha).1 w
  have ga := ly_gr Q T (V a ha) hr pr w
  have gb := ly_gr Q T (V b hb) hr pr w'
  refine in_c (vp_in_nI ha (by omega)) ?_
  rw [ar_nc pn (i := a) (by omega)]
  refine xx_topOf T (V a ha).1 pr w (in_c (vp_in_nI hb (by omega)) ?_)
  rw [ar_nc pn (i := b) (by omega)]
  refine xx_topOf T (V b hb).1 pr w' (br_t rfl (xx_layRow Q T hr pr ?_))
  intro rl rn oa ca il D
  refine xx_gapOf Q T D ha (V a ha) w (xx_gapOf Q T D hb (V b hb) w' ?_)
  have h := h rl rn oa ca il
  unfold cp_c at h
  refine cb_i (nI_eq (by omega) (by omega)) (fun e => ?_) (fun e => cb_i (nI_leI (by omega) (by omega)) (fun e2 => ?_) (fun e2 => ?_))
  · rw [if_pos e] at h; exact h
  · rw [if_neg e, if_neg (by omega)] at h; exact h
  · rw [if_neg e, if_pos (by omega)] at h; exact h
theorem yy_order_ne {c : Nat} {kd pa sz it pn po : Nat → Nat} {ln : Int32} {mk os cs cm : Nat → Int32} {post : Int32 → SY → Prop} {a b r r' : Nat} (T : tr_T c kd pa sz it) (V : ∀ k, k < 8 → pl_ok c sz (pn k) (po k)) (ha : a < 8) (hb : b < 8) (pr : pa r = 0) (w : tr_w pa (pn a + 1) r) (pr' : pa r' = 0) (w' : tr_w pa (pn b + 1) r') (ne : r ≠ r') (h : post 2 (nI c, ln, ar_n kd, ar_p pa, ar_n sz, ar_n it, ar_n pn, ar_n po, mk, os, cs, cm)) : wpY_order post (nI c, ln, ar_n kd, ar_p pa, ar_n sz, ar_n it, ar_n pn, ar_n po, mk, os, cs, cm) (nI a) (nI b) := by
  have c24 := tr_c24 T
  have h1 := tr_lt T (V a ha).1 w
  have h2 := tr_lt T (V b hb).1 w'
  refine in_c (vp_in_nI ha (by omega)) ?_
  rw [ar_nc pn (i := a) (by omega)]
  refine yy_treeOf T (V a ha).1 pr w (in_c (vp_in_nI hb (by omega)) ?_)
  rw [ar_nc pn (i := b) (by omega)]
  refine yy_treeOf T (V b hb).1 pr' w' (br_f ?_ h)
  rw [nI_eq (by omega) (by omega)]; exact Ne.symm ne
theorem yy_order_eq {c : Nat} {kd pa sz it pn po : Nat → Nat} {ln : Int32} {mk os cs cm : Nat → Int32} {L op N : Nat → Nat} {post : Int32 → SY → Prop} {a b r : Nat} (Q : ly_Q c kd pa sz it L op N) (T : tr_T c kd pa sz it) (V : ∀ k, k < 8 → pl_ok c sz (pn k) (po k)) (ha : a < 8) (hb : b < 8) (pr : pa r = 0) (w : tr_w pa (pn a + 1) r) (w' : tr_w pa (pn b + 1) r) (h : ∀ ln mk os cs cm, post (cp_c (ly_g kd it L op (pn a) (po a)) (ly_g kd it L op (pn b) (po b))) (nI c, ln, ar_n kd, ar_p pa, ar_n sz, ar_n it, ar_n pn, ar_n po, mk, os, cs, cm)) : wpY_order post (nI c, ln, ar_n kd, ar_p pa, ar_n sz, ar_n it, ar_n pn, ar_n po, mk, os, cs, cm) (nI a) (nI b) := by
  have c24 := tr_c24 T
  have hr := tr_lt T (V a ha).1 w
  have ga := ly_gr Q T (V a ha) hr pr w
  have gb := ly_gr Q T (V b hb) hr pr w'
  refine in_c (vp_in_nI ha (by omega)) ?_
  rw [ar_nc pn (i := a) (by omega)]
  refine yy_treeOf T (V a ha).1 pr w (in_c (vp_in_nI hb (by omega)) ?_)
  rw [ar_nc pn (i := b) (by omega)]
  refine yy_treeOf T (V b hb).1 pr w' (br_t rfl (yy_write Q T hr pr ?_))
  intro ln mk os cs cm D
  refine yy_gap Q T D ha (V a ha) w (yy_gap Q T D hb (V b hb) w' ?_)
  have h := h ln mk os cs cm
  unfold cp_c at h
  refine cb_i (nI_leI (by omega) (by omega)) (fun e => cb_i (nI_leI (by omega) (by omega)) (fun e2 => ?_) (fun e2 => ?_)) (fun e => ?_)
  · rw [if_pos (by omega)] at h; exact h
  · rw [if_neg (by omega), if_neg (by omega)] at h; exact h
  · rw [if_neg (by omega), if_pos (by omega)] at h; exact h
theorem i_vc_compare {k : Nat} {u : SX} {v : SY} (I : i_Rel k u v) (hk : k + 5 ≤ 2560) (v1 : Int32) (v2 : Int32) (v3 : Int32) (v4 : Int32) : wpX_compare (fun r u' => wpY_compare (fun r' v' => r' = r ∧ i_Rel (k + 5) u' v') v v1 v2 v3 v4) u v1 v2 v3 v4 := by
  have J := i_up I
  obtain ⟨c, kd, pa, sz, it, pn, po, sg, eg, rl, rn, oa, ca, il, dm, ln, mk, os, cs, cm, rfl, rfl, T, P⟩ := I
  unfold wpX_compare
  dsimp only
  rcases nd_cases 4 v1 with ⟨q1, h1, rfl⟩ | h1
  · refine xx_isRange_t h1 (br_f (by decide) ?_)
    rcases nd_cases 2 v2 with ⟨q2, h2, rfl⟩ | h2
    · refine xx_isWhich_t h2 (br_f (by decide) ?_)
      rcases nd_cases 4 v3 with ⟨q3, h3, rfl⟩ | h3
      · refine xx_isRange_t h3 (br_f (by decide) ?_)
        rcases nd_cases 2 v4 with ⟨q4, h4, rfl⟩ | h4
        · refine xx_isWhich_t h4 (br_f (by decide) ?_)
          have YW : ∀ post : Int32 → SY → Prop, wpY_order (fun r u => post r u) (nI c, ln, ar_n kd, ar_p pa, ar_n sz, ar_n it, ar_n pn, ar_n po, mk, os, cs, cm) (nI (2 * q1 + q2)) (nI (2 * q3 + q4)) → wpY_compare post (nI c, ln, ar_n kd, ar_p pa, ar_n sz, ar_n it, ar_n pn, ar_n po, mk, os, cs, cm) (nI q1) (nI q2) (nI q3) (nI q4) := by
            intro post h
            unfold wpY_compare
            dsimp only
            refine yy_isPlace_t h1 h2 (br_f (by decide) (yy_isPlace_t h3 h4 (br_f (by decide) ?_)))
            rw [ix_2y, ix_2y, nI_add, nI_add]
            exact h
          rw [ix_2x, ix_2x, nI_add, nI_add]
          have ha : 2 * q1 + q2 < 8 := by omega
          have hb : 2 * q3 + q4 < 8 := by omega
          obtain ⟨r, hr, pr, w⟩ := tr_top T (P.1 _ ha).1
          obtain ⟨r', hr', pr', w'⟩ := tr_top T (P.1 _ hb).1
          by_cases e : r = r'
          · subst e
            obtain ⟨L, op, N, Q⟩ := ly_ex T
            refine xx_order_eq Q T P.1 ha hb pr w w' ?_
            intro rl rn oa ca il
            refine YW _ (yy_order_eq Q T P.1 ha hb pr w w' ?_)
            intro ln mk os cs cm
            exact ⟨rfl, rel_mk T P⟩
          · exact xx_order_ne T P.1 ha hb pr w pr' w' e (YW _ (yy_order_ne T P.1 ha hb pr w pr' w' e ⟨rfl, J⟩))
        · refine xx_isWhich_f h4 (br_t rfl ?_)
          unfold wpY_compare
          dsimp only
          exact yy_isPlace_t h1 h2 (br_f (by decide) (yy_isPlace_f2 h3 h4 (br_t rfl ⟨rfl, J⟩)))
      · refine xx_isRange_f h3 (br_t rfl ?_)
        unfold wpY_compare
        dsimp only
        exact yy_isPlace_t h1 h2 (br_f (by decide) (yy_isPlace_f1 h3 (br_t rfl ⟨rfl, J⟩)))
    · refine xx_isWhich_f h2 (br_t rfl ?_)
      unfold wpY_compare
      dsimp only
      exact yy_isPlace_f2 h1 h2 (br_t rfl ⟨rfl, J⟩)
  · refine xx_isRange_f h1 (br_t rfl ?_)
    unfold wpY_compare
    dsimp only
    exact yy_isPlace_f1 h1 (br_t rfl ⟨rfl, J⟩)
/-! setStart, setEnd -/
theorem cp_1 {a b : Nat} : (cp_c a b = 2 → False) ∧ (cp_c a b = 1 ↔ b < a) ∧ (cp_c a b = -1 ↔ a < b) := by
  unfold cp_c
  by_cases e : a = b
  · rw [if_pos e]
    exact ⟨by decide, ⟨fun z => absurd z (by decide), fun z => by omega⟩, ⟨fun z => absurd z (by decide), fun z => by omega⟩⟩
  · rw [if_neg e]
    by_cases l : a < b
    · rw [if_pos l]
      exact ⟨by decide, ⟨fun z => absurd z (by decide), fun z => by omega⟩, ⟨fun _ => l, fun _ => rfl⟩⟩
    · rw [if_neg l]
      exact ⟨by decide, ⟨fun _ => by omega, fun _ => rfl⟩, ⟨fun z => absurd z (by decide), fun z => by omega⟩⟩
/-- two places of a range set anew -/
theorem pl_set {c : Nat} {kd pa sz it pn po pn' po' : Nat → Nat} (P : pl_P c kd pa sz it pn po) {q : Nat} (hq : q < 4) (same : ∀ k, k ≠ 2 * q → k ≠ 2 * q + 1 → pn' k = pn k ∧ po' k = po k) (v1 : pl_ok c sz (pn' (2 * q)) (po' (2 * q))) (v2 : pl_ok c sz (pn' (2 * q + 1)) (po' (2 * q + 1))) (R : pl_R c kd pa sz it (pn' (2 * q)) (po' (2 * q)) (pn' (2 * q + 1)) (po' (2 * q + 1))) : pl_P c kd pa sz it pn' po' := by
  refine ⟨fun k hk => ?_, fun r hr => ?_⟩
  · by_cases e1 : k = 2 * q
    · rw [e1]; exact v1
    · by_cases e2 : k = 2 * q + 1
      · rw [e2]; exact v2
      · have := same k e1 e2
        rw [this.1, this.2]
        exact P.1 k hk
  · by_cases e : r = q
    · rw [e]; exact R
    · have a := same (2 * r) (by omega) (by omega)
      have b := same (2 * r + 1) (by omega) (by omega)
      rw [a.1, a.2, b.1, b.2]
      exact P.2 r hr
theorem xx_isOffset {c : Nat} {kd pa sz it pn po : Nat → Nat} {sg eg : Int32} {rl rn oa ca il dm : Nat → Int32} {post : Int32 → Prop} {n : Nat} {x : Int32} (hn : n < 24) (hs : sz n < 24) (h1 : ∀ o, o ≤ sz n → x = nI o → post 1) (h0 : (∀ o, o ≤ sz n → x ≠ nI o) → post 0) : wpX_isOffset post (nI c, sg, eg, ar_n kd, ar_p pa, ar_n sz, ar_n it, ar_n pn, ar_n po, rl, rn, oa, ca, il, dm) (nI n) x := by
  by_cases z : x < 0
  · exact br_t z (h0 fun o ho e => by rw [e] at z; exact nI_pos (by omega) z)
  · obtain ⟨j, hj, rfl⟩ := nI_of z
    refine br_f z (in_c (vp_in_nI hn (by omega)) ?_)
    rw [ar_nc _ (by omega)]
    refine cb_i (nI_ltI (by omega) hj) (fun l => h0 fun o ho e => ?_) (fun l => h1 j (by omega) rfl)
    rw [nI_eq hj (by omega)] at e
    omega
theorem of_f {n : Nat} {x : Int32} (hn : n < 24) (h : ∀ o, o ≤ n → x ≠ nI o) : x < 0 ∨ (¬ x < 0 ∧ ¬ x ≤ nI n) := by
  by_cases z : x < 0
  · exact Or.inl z
  · obtain ⟨j, hj, rfl⟩ := nI_of z
    refine Or.inr ⟨z, fun l => ?_⟩
    rw [nI_leI hj (by omega)] at l
    exact h j l rfl
theorem yy_copyPlace {c : Nat} {kd pa sz it pn po : Nat → Nat} {ln : Int32} {mk os cs cm : Nat → Int32} {post : SY → Prop} {a b : Nat} (ha : a < 8) (hb : b < 8) (h : post (nI c, ln, ar_n kd, ar_p pa, ar_n sz, ar_n it, ar_n (st_u pn b (pn a)), ar_n (st_u po b (po a)), mk, os, cs, cm)) : wpY_copyPlace post (nI c, ln, ar_n kd, ar_p pa, ar_n sz, ar_n it, ar_n pn, ar_n po, mk, os, cs, cm) (nI a) (nI b) := by
  refine in_c (vp_in_nI ha (by omega)) (in_c (vp_in_nI hb (by omega)) (nm_r (e' := ar_n (st_u pn b (pn a))) ?_ (in_c (vp_in_nI ha (by omega)) (in_c (vp_in_nI hb (by omega)) (nm_r (e' := ar_n (st_u po b (po a))) ?_ h)))))
  · rw [ar_nc _ (by omega), nI_clamp (by omega), ar_nu]
  · rw [ar_nc _ (by omega), nI_clamp (by omega), ar_nu]
/-- Y's setPlace up to the order -/
theorem yy_sp0 {c : Nat} {kd pa sz it pn po : Nat → Nat} {ln : Int32} {mk os cs cm : Nat → Int32} {post : Int32 → SY → Prop} {a b n o : Nat} {x : Int32} (T : tr_T c kd pa sz it) (ha : a < 8) (hn : n < c) (ho : o ≤ sz n) (h : wpY_order (fun r_22 u => match u with | (f_count_23, f_length_24, a_isText_25, a_parents_26, a_sizes_27, a_items_28, a_placeNode_29, a_placeOffset_30, a_marks_31, a_opens_32, a_closes_33, a_coming_34) => (((r_22 = 2 → (wY_setPlace_67 post (nI a) (nI b) f_count_23 f_length_24 a_isText_25 a_parents_26 a_sizes_27 a_items_28 a_placeNode_29 a_placeOffset_30 a_marks_31 a_opens_32 a_closes_33 a_coming_34)) ∧ (¬ r_22 = 2 → (((r_22 = x → (wY_setPlace_67 post (nI a) (nI b) f_count_23 f_length_24 a_isText_25 a_parents_26 a_sizes_27 a_items_28 a_placeNode_29 a_placeOffset_30 a_marks_31 a_opens_32 a_closes_33 a_coming_34)) ∧ (¬ r_22 = x → (post 1 (f_count_23, f_length_24, a_isText_25, a_parents_26, a_sizes_27, a_items_28, a_placeNode_29, a_placeOffset_30, a_marks_31, a_opens_32, a_closes_33, a_coming_34))))))))) (nI c, ln, ar_n kd, ar_p pa, ar_n sz, ar_n it, ar_n (st_u pn a n), ar_n (st_u po a o), mk, os, cs, cm) (nI b) (nI a)) : wpY_setPlace post (nI c, ln, ar_n kd, ar_p pa, ar_n sz, ar_n it, ar_n pn, ar_n po, mk, os, cs, cm) (nI a) (nI b) x (nI n) (nI o) := by
  have c24 := tr_c24 T
  have s24 := tr_s24 T hn
  unfold wpY_setPlace
  dsimp only
  refine yy_isNode_t c24 hn (br_f (by decide) (br_f (nI_pos (by omega)) (in_c (vp_in_nI (by omega) (by omega)) (br_t (by rw [ar_nc _ (by omega), nI_leI (by omega) (by omega)]; exact ho) (in_c (vp_in_nI ha (by omega)) (nm_r (e' := ar_n (st_u pn a n)) ?_ (in_c (vp_in_nI ha (by omega)) (nm_r (e' := ar_n (st_u po a o)) ?_ h))))))))
  · rw [nI_clamp (by omega), ar_nu]
  · rw [nI_clamp (by omega), ar_nu]
