/-! the relation, the beginning, and the methods that only look -/
def i_Rel (_ : Nat) (u : SX) (v : SY) : Prop := ∃ (c : Nat) (kd pa sz it pn po : Nat → Nat) (sg eg : Int32) (rl rn oa ca il dm : Nat → Int32) (ln : Int32) (mk os cs cm : Nat → Int32), u = (nI c, sg, eg, ar_n kd, ar_p pa, ar_n sz, ar_n it, ar_n pn, ar_n po, rl, rn, oa, ca, il, dm) ∧ v = (nI c, ln, ar_n kd, ar_p pa, ar_n sz, ar_n it, ar_n pn, ar_n po, mk, os, cs, cm) ∧ tr_T c kd pa sz it ∧ pl_P c kd pa sz it pn po
theorem i_up {k : Nat} {u : SX} {v : SY} (h : i_Rel k u v) : i_Rel (k + 5) u v := h
theorem rel_mk {k c : Nat} {kd pa sz it pn po : Nat → Nat} {sg eg : Int32} {rl rn oa ca il dm : Nat → Int32} {ln : Int32} {mk os cs cm : Nat → Int32} (T : tr_T c kd pa sz it) (P : pl_P c kd pa sz it pn po) : i_Rel k (nI c, sg, eg, ar_n kd, ar_p pa, ar_n sz, ar_n it, ar_n pn, ar_n po, rl, rn, oa, ca, il, dm) (nI c, ln, ar_n kd, ar_p pa, ar_n sz, ar_n it, ar_n pn, ar_n po, mk, os, cs, cm) :=
  ⟨c, kd, pa, sz, it, pn, po, sg, eg, rl, rn, oa, ca, il, dm, ln, mk, os, cs, cm, rfl, rfl, T, P⟩
def ini_p (j : Nat) : Nat := if j = 0 then 0 else 1
theorem ini_T : tr_T 1 (fun _ => 0) ini_p (fun _ => 0) (fun _ => 0) := by
  refine ⟨⟨by omega, by omega⟩, fun _ _ => Nat.zero_le 1, fun _ _ h => absurd h (by show (0 : Nat) ≠ 1; omega), fun _ _ _ _ h => absurd h (Nat.not_lt_zero _), fun _ _ _ _ _ h => absurd h (Nat.not_lt_zero _), ?_, ⟨fun _ => 0, ?_⟩⟩
  · intro n p hn e
    have : n = 0 := by omega
    subst this
    exact absurd e (by unfold ini_p; rw [if_pos rfl]; omega)
  · intro n p hn e
    have : n = 0 := by omega
    subst this
    exact absurd e (by unfold ini_p; rw [if_pos rfl]; omega)
theorem ini_P : pl_P 1 (fun _ => 0) ini_p (fun _ => 0) (fun _ => 0) (fun _ => 0) (fun _ => 0) :=
  ⟨fun _ _ => ⟨Nat.zero_lt_one, Nat.le_refl 0⟩, fun _ _ => pl_Rr ini_T Nat.zero_lt_one⟩
theorem ini_z : (fun _ : Nat => (0 : Int32)) = ar_n (fun _ => 0) := rfl
theorem i_vc0 : wpX_init (fun u => wpY_init (fun v => i_Rel 0 u v)) := by
  have hi : vp_in (0 : Int32) 24 := vp_in_nI (n := 0) (by omega) (by omega)
  have ep : upd (fun _ : Nat => (0 : Int32)) 0 (-1) = ar_p ini_p := by
    funext j
    unfold upd ar_p ini_p
    split
    · decide
    · show (0 : Int32) = nI 1 - 1
      decide
  have ez : upd (fun _ : Nat => (0 : Int32)) (0 : Int32).toNatClampNeg 0 = ar_n (fun _ => 0) := by
    funext j
    unfold upd ar_n
    split <;> rfl
  unfold wpX_init
  refine in_c hi (nm_r ez (in_c hi (nm_r ep (in_c hi (nm_r ez (nm_r (e' := nI 1) (by decide) ?_))))))
  refine nm_r ep ?_
  exact rel_mk (c := 1) (kd := fun _ => 0) (pa := ini_p) (sz := fun _ => 0) (it := fun _ => 0) (pn := fun _ => 0) (po := fun _ => 0) ini_T ini_P
theorem i_vc_nodes {k : Nat} {u : SX} {v : SY} (I : i_Rel k u v) (hk : k + 5 ≤ 2560) : wpX_nodes (fun r => wpY_nodes (fun r' => r' = r ∧ i_Rel (k + 5) u v) v) u := by
  have J := i_up I
  obtain ⟨c, kd, pa, sz, it, pn, po, sg, eg, rl, rn, oa, ca, il, dm, ln, mk, os, cs, cm, rfl, rfl, T, P⟩ := I
  exact ⟨rfl, J⟩
theorem i_vc_kind {k : Nat} {u : SX} {v : SY} (I : i_Rel k u v) (hk : k + 5 ≤ 2560) (v1 : Int32) : wpX_kind (fun r => wpY_kind (fun r' => r' = r ∧ i_Rel (k + 5) u v) v v1) u v1 := by
  have J := i_up I
  obtain ⟨c, kd, pa, sz, it, pn, po, sg, eg, rl, rn, oa, ca, il, dm, ln, mk, os, cs, cm, rfl, rfl, T, P⟩ := I
  have c24 := tr_c24 T
  unfold wpX_kind
  dsimp only
  rcases nd_cases c v1 with ⟨n, hn, rfl⟩ | h
  · refine xx_isNode_t c24 hn (br_f (by decide) (in_c (vp_in_nI (by omega) (by omega)) ?_))
    unfold wpY_kind
    dsimp only
    refine yy_isNode_t c24 hn (br_f (by decide) (in_c (vp_in_nI (by omega) (by omega)) ?_))
    rw [ar_nc _ (by omega)]
    rcases tr_k1 T hn with e | e
    · rw [e]; exact br_t rfl ⟨rfl, J⟩
    · rw [e]; exact br_f (by decide) ⟨rfl, J⟩
  · refine xx_isNode_f c24 h (br_t rfl ?_)
    unfold wpY_kind
    dsimp only
    exact yy_isNode_f c24 h (br_t rfl ⟨rfl, J⟩)
theorem i_vc_size {k : Nat} {u : SX} {v : SY} (I : i_Rel k u v) (hk : k + 5 ≤ 2560) (v1 : Int32) : wpX_size (fun r => wpY_size (fun r' => r' = r ∧ i_Rel (k + 5) u v) v v1) u v1 := by
  have J := i_up I
  obtain ⟨c, kd, pa, sz, it, pn, po, sg, eg, rl, rn, oa, ca, il, dm, ln, mk, os, cs, cm, rfl, rfl, T, P⟩ := I
  have c24 := tr_c24 T
  unfold wpX_size
  dsimp only
  rcases nd_cases c v1 with ⟨n, hn, rfl⟩ | h
  · refine xx_isNode_t c24 hn (br_f (by decide) (in_c (vp_in_nI (by omega) (by omega)) ?_))
    unfold wpY_size
    dsimp only
    exact yy_isNode_t c24 hn (br_f (by decide) (in_c (vp_in_nI (by omega) (by omega)) ⟨rfl, J⟩))
  · refine xx_isNode_f c24 h (br_t rfl ?_)
    unfold wpY_size
    dsimp only
    exact yy_isNode_f c24 h (br_t rfl ⟨rfl, J⟩)
theorem i_vc_parent {k : Nat} {u : SX} {v : SY} (I : i_Rel k u v) (hk : k + 5 ≤ 2560) (v1 : Int32) : wpX_parent (fun r => wpY_parent (fun r' => r' = r ∧ i_Rel (k + 5) u v) v v1) u v1 := by
  have J := i_up I
  obtain ⟨c, kd, pa, sz, it, pn, po, sg, eg, rl, rn, oa, ca, il, dm, ln, mk, os, cs, cm, rfl, rfl, T, P⟩ := I
  have c24 := tr_c24 T
  unfold wpX_parent
  dsimp only
  rcases nd_cases c v1 with ⟨n, hn, rfl⟩ | h
  · have hl := tr_pl T hn
    have hi : vp_in (nI n) 24 := vp_in_nI (by omega) (by omega)
    refine xx_isNode_t c24 hn (br_f (by decide) (in_c hi ?_))
    rw [ar_pc _ (by omega)]
    refine cb_i (ar_no (by omega)) (fun e => ?_) (fun e => in_c hi ?_)
    · unfold wpY_parent
      dsimp only
      refine yy_isNode_t c24 hn (br_f (by decide) (in_c hi ?_))
      rw [ar_pc _ (by omega)]
      exact br_f (by rw [ar_pos (by omega)]; omega) ⟨rfl, J⟩
    · unfold wpY_parent
      dsimp only
      refine yy_isNode_t c24 hn (br_f (by decide) (in_c hi ?_))
      rw [ar_pc _ (by omega)]
      exact br_t (by rw [ar_pos (by omega)]; omega) (in_c hi ⟨rfl, J⟩)
  · refine xx_isNode_f c24 h (br_t rfl ?_)
    unfold wpY_parent
    dsimp only
    exact yy_isNode_f c24 h (br_t rfl ⟨rfl, J⟩)
theorem i_vc_item {k : Nat} {u : SX} {v : SY} (I : i_Rel k u v) (hk : k + 5 ≤ 2560) (v1 : Int32) (v2 : Int32) : wpX_item (fun r => wpY_item (fun r' => r' = r ∧ i_Rel (k + 5) u v) v v1 v2) u v1 v2 := by
  have J := i_up I
  obtain ⟨c, kd, pa, sz, it, pn, po, sg, eg, rl, rn, oa, ca, il, dm, ln, mk, os, cs, cm, rfl, rfl, T, P⟩ := I
  have c24 := tr_c24 T
  unfold wpX_item
  dsimp only
  rcases nd_cases c v1 with ⟨n, hn, rfl⟩ | h
  · have s24 := tr_s24 T hn
    have hi : vp_in (nI n) 24 := vp_in_nI (by omega) (by omega)
    refine xx_isNode_t c24 hn (br_f (by decide) ?_)
    by_cases z : v2 < 0
    · refine br_t z ?_
      unfold wpY_item
      dsimp only
      exact yy_isNode_t c24 hn (br_f (by decide) (br_t z ⟨rfl, J⟩))
    · refine br_f z (in_c hi ?_)
      obtain ⟨j, hj, rfl⟩ := nI_of z
      rw [ar_nc _ (by omega)]
      refine cb_i (nI_ltI hj (by omega)) (fun l => ?_) (fun l => ?_)
      · rw [ix_x]
        refine in_c (vp_in_nI (by omega) (by omega)) ?_
        unfold wpY_item
        dsimp only
        refine yy_isNode_t c24 hn (br_f (by decide) (br_f z (in_c hi ?_)))
        rw [ar_nc _ (by omega), ix_y]
        exact br_f (by rw [nI_leI (by omega) hj]; omega) (in_c (vp_in_nI (by omega) (by omega)) ⟨rfl, J⟩)
      · unfold wpY_item
        dsimp only
        refine yy_isNode_t c24 hn (br_f (by decide) (br_f z (in_c hi ?_)))
        rw [ar_nc _ (by omega)]
        exact br_t (by rw [nI_leI (by omega) hj]; omega) ⟨rfl, J⟩
  · refine xx_isNode_f c24 h (br_t rfl ?_)
    unfold wpY_item
    dsimp only
    exact yy_isNode_f c24 h (br_t rfl ⟨rfl, J⟩)
theorem i_vc_nodeOf {k : Nat} {u : SX} {v : SY} (I : i_Rel k u v) (hk : k + 5 ≤ 2560) (v1 : Int32) (v2 : Int32) : wpX_nodeOf (fun r => wpY_nodeOf (fun r' => r' = r ∧ i_Rel (k + 5) u v) v v1 v2) u v1 v2 := by
  have J := i_up I
  obtain ⟨c, kd, pa, sz, it, pn, po, sg, eg, rl, rn, oa, ca, il, dm, ln, mk, os, cs, cm, rfl, rfl, T, P⟩ := I
  unfold wpX_nodeOf
  dsimp only
  rcases nd_cases 4 v1 with ⟨r, hr, rfl⟩ | h
  · refine xx_isRange_t hr (br_f (by decide) ?_)
    rcases nd_cases 2 v2 with ⟨w, hw, rfl⟩ | h2
    · refine xx_isWhich_t hw (br_f (by decide) ?_)
      rw [ix_2x, nI_add]
      refine in_c (vp_in_nI (by omega) (by omega)) ?_
      unfold wpY_nodeOf
      dsimp only
      refine yy_isPlace_t hr hw (br_f (by decide) ?_)
      rw [ix_2y, nI_add]
      exact in_c (vp_in_nI (by omega) (by omega)) ⟨rfl, J⟩
    · refine xx_isWhich_f h2 (br_t rfl ?_)
      unfold wpY_nodeOf
      dsimp only
      exact yy_isPlace_f2 hr h2 (br_t rfl ⟨rfl, J⟩)
  · refine xx_isRange_f h (br_t rfl ?_)
    unfold wpY_nodeOf
    dsimp only
    exact yy_isPlace_f1 h (br_t rfl ⟨rfl, J⟩)
theorem i_vc_offsetOf {k : Nat} {u : SX} {v : SY} (I : i_Rel k u v) (hk : k + 5 ≤ 2560) (v1 : Int32) (v2 : Int32) : wpX_offsetOf (fun r => wpY_offsetOf (fun r' => r' = r ∧ i_Rel (k + 5) u v) v v1 v2) u v1 v2 := by
  have J := i_up I
  obtain ⟨c, kd, pa, sz, it, pn, po, sg, eg, rl, rn, oa, ca, il, dm, ln, mk, os, cs, cm, rfl, rfl, T, P⟩ := I
  unfold wpX_offsetOf
  dsimp only
  rcases nd_cases 4 v1 with ⟨r, hr, rfl⟩ | h
  · refine xx_isRange_t hr (br_f (by decide) ?_)
    rcases nd_cases 2 v2 with ⟨w, hw, rfl⟩ | h2
    · refine xx_isWhich_t hw (br_f (by decide) ?_)
      rw [ix_2x, nI_add]
      refine in_c (vp_in_nI (by omega) (by omega)) ?_
      unfold wpY_offsetOf
      dsimp only
      refine yy_isPlace_t hr hw (br_f (by decide) ?_)
      rw [ix_2y, nI_add]
      exact in_c (vp_in_nI (by omega) (by omega)) ⟨rfl, J⟩
    · refine xx_isWhich_f h2 (br_t rfl ?_)
      unfold wpY_offsetOf
      dsimp only
      exact yy_isPlace_f2 hr h2 (br_t rfl ⟨rfl, J⟩)
  · refine xx_isRange_f h (br_t rfl ?_)
    unfold wpY_offsetOf
    dsimp only
    exact yy_isPlace_f1 h (br_t rfl ⟨rfl, J⟩)
theorem i_vc_element {k : Nat} {u : SX} {v : SY} (I : i_Rel k u v) (hk : k + 5 ≤ 2560) : wpX_element (fun r u' => wpY_element (fun r' v' => r' = r ∧ i_Rel (k + 5) u' v') v) u := by
  have J := i_up I
  obtain ⟨c, kd, pa, sz, it, pn, po, sg, eg, rl, rn, oa, ca, il, dm, ln, mk, os, cs, cm, rfl, rfl, T, P⟩ := I
  have c24 := tr_c24 T
  unfold wpX_element
  dsimp only
  refine cb_i (nI_ltI (b := 24) (by omega) (by omega)) (fun h => xx_makeNode (k := 0) h ?_) (fun h => ?_)
  · unfold wpY_element
    dsimp only
    exact yy_make (k := 0) (by omega) h ⟨rfl, rel_mk (tr_Tmake T h (by omega)) (pl_Pmk T P)⟩
  · unfold wpY_element
    dsimp only
    exact yy_make_f (by omega) ⟨rfl, J⟩
theorem i_vc_text {k : Nat} {u : SX} {v : SY} (I : i_Rel k u v) (hk : k + 5 ≤ 2560) : wpX_text (fun r u' => wpY_text (fun r' v' => r' = r ∧ i_Rel (k + 5) u' v') v) u := by
  have J := i_up I
  obtain ⟨c, kd, pa, sz, it, pn, po, sg, eg, rl, rn, oa, ca, il, dm, ln, mk, os, cs, cm, rfl, rfl, T, P⟩ := I
  have c24 := tr_c24 T
  unfold wpX_text
  dsimp only
  refine cb_i (nI_ltI (b := 24) (by omega) (by omega)) (fun h => xx_makeNode (k := 1) h ?_) (fun h => ?_)
  · unfold wpY_text
    dsimp only
    exact yy_make (k := 1) (by omega) h ⟨rfl, rel_mk (tr_Tmake T h (by omega)) (pl_Pmk T P)⟩
  · unfold wpY_text
    dsimp only
    exact yy_make_f (by omega) ⟨rfl, J⟩
