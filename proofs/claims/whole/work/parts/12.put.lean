/-! take, put, replace -/
theorem i_vc_take {k : Nat} {u : SX} {v : SY} (I : i_Rel k u v) (hk : k + 5 ≤ 2560) (v1 : Int32) : wpX_take (fun r u' => wpY_take (fun r' v' => r' = r ∧ i_Rel (k + 5) u' v') v v1) u v1 := by
  have J := i_up I
  obtain ⟨c, kd, pa, sz, it, pn, po, sg, eg, rl, rn, oa, ca, il, dm, ln, mk, os, cs, cm, rfl, rfl, T, P⟩ := I
  have c24 := tr_c24 T
  unfold wpX_take
  dsimp only
  rcases nd_cases c v1 with ⟨n, hn, rfl⟩ | h
  · have hi : vp_in (nI n) 24 := vp_in_nI (by omega) (by omega)
    refine xx_isNode_t c24 hn (br_f (by decide) (in_c hi ?_))
    cases e : pa n with
    | zero =>
      refine br_t (by rw [ar_pc _ (by omega), e]; decide) ?_
      unfold wpY_take
      dsimp only
      exact yy_isNode_t c24 hn (br_f (by decide) (in_c hi (br_f (by rw [ar_pc _ (by omega), e]; decide) ⟨rfl, J⟩)))
    | succ p =>
      obtain ⟨hp, kp, i, hi', he⟩ := tr_pe T hn e
      refine br_f (by rw [ar_pc _ (by omega), e, ar_no (by omega)]; omega) (xx_indexOf T hn e hi' he (xx_takeOut T P.1 hn e hi' he ?_))
      show wpY_take _ _ _
      unfold wpY_take
      dsimp only
      refine yy_isNode_t c24 hn (br_f (by decide) (in_c hi (br_t (by rw [ar_pc _ (by omega), e, ar_pos (by omega)]; omega) (yy_takeOut T P.1 hn e hi' he ?_))))
      exact ⟨rfl, rel_mk (tr_Ttake T hn e hi' he) (pl_Ptk T hn e hi' he P)⟩
  · refine xx_isNode_f c24 h (br_t rfl ?_)
    unfold wpY_take
    dsimp only
    exact yy_isNode_f c24 h (br_t rfl ⟨rfl, J⟩)
theorem xx_put92 {c : Nat} {kd pa sz it pn po : Nat → Nat} {sg eg : Int32} {rl rn oa ca il dm : Nat → Int32} {post : Int32 → SX → Prop} {n p i : Nat} (T : tr_T c kd pa sz it) (V : ∀ k, k < 8 → pl_ok c sz (pn k) (po k)) (hn : n < c) (hp : p < c) (hs : sz p + 1 ≤ 24) (hi : i ≤ sz p)
    (h : post (nI (sz p + 1)) (nI c, sg, eg, ar_n kd, ar_p (st_u pa n (p + 1)), ar_n (st_u sz p (sz p + 1)), ar_n (st_u (mv_r it (24 * p) i (sz p) 1) (24 * p + i) n), ar_n (mp_n (pl_pt p i) pn po), ar_n (mp_o (pl_pt p i) pn po), rl, rn, oa, ca, il, dm)) : wX_put_92 post (nI p) (nI n) (nI i) (nI c) sg eg (ar_n kd) (ar_p pa) (ar_n sz) (ar_n it) (ar_n pn) (ar_n po) rl rn oa ca il dm := by
  have c24 := tr_c24 T
  unfold wX_put_92
  refine xx_putIn T V hn hp hs hi (in_c (vp_in_nI (by omega) (by omega)) ?_)
  rw [ar_nc _ (by omega), st_us]
  exact h
theorem yy_put105 {c : Nat} {kd pa sz it pn po : Nat → Nat} {ln : Int32} {mk os cs cm : Nat → Int32} {post : Int32 → SY → Prop} {n p i : Nat} (T : tr_T c kd pa sz it) (V : ∀ k, k < 8 → pl_ok c sz (pn k) (po k)) (hn : n < c) (hp : p < c) (hs : sz p + 1 ≤ 24) (hi : i ≤ sz p)
    (h : post (nI (sz p + 1)) (nI c, ln, ar_n kd, ar_p (st_u pa n (p + 1)), ar_n (st_u sz p (sz p + 1)), ar_n (st_u (mv_r it (24 * p) i (sz p) 1) (24 * p + i) n), ar_n (mp_n (pl_pt p i) pn po), ar_n (mp_o (pl_pt p i) pn po), mk, os, cs, cm)) : wY_put_105 post (nI p) (nI n) (nI i) (nI c) ln (ar_n kd) (ar_p pa) (ar_n sz) (ar_n it) (ar_n pn) (ar_n po) mk os cs cm := by
  have c24 := tr_c24 T
  unfold wY_put_105
  refine yy_putIn T V hn hp hs hi (in_c (vp_in_nI (by omega) (by omega)) ?_)
  rw [ar_nc _ (by omega), st_us]
  exact h
def pt_m (pa sz : Nat → Nat) (n p : Nat) : Nat := if pa n = p + 1 then sz p - 1 else sz p
theorem xx_putw {c : Nat} {kd pa sz it pn po : Nat → Nat} {sg eg : Int32} {rl rn oa ca il dm : Nat → Int32} {post : Int32 → SX → Prop} {n p : Nat} {x : Int32} (T : tr_T c kd pa sz it) (hn : n < c) (hp : p < c) (kp : kd p = 0) (n0 : n ≠ 0) (nw : ¬ tr_w pa (p + 1) n) (h : wX_put_62 post (nI p) (nI n) x (nI (pt_m pa sz n p)) (nI c) sg eg (ar_n kd) (ar_p pa) (ar_n sz) (ar_n it) (ar_n pn) (ar_n po) rl rn oa ca il dm) : wpX_put post (nI c, sg, eg, ar_n kd, ar_p pa, ar_n sz, ar_n it, ar_n pn, ar_n po, rl, rn, oa, ca, il, dm) (nI p) (nI n) x := by
  have c24 := tr_c24 T
  have hl := tr_pl T hn
  unfold wpX_put
  dsimp only
  refine xx_isOfKind_t (k := 0) c24 hp kp (br_f (by decide) (xx_isNode_t c24 hn (br_f (by decide) (br_f (nI_ne0 (by omega) (by omega)) (xx_isWithin T hp hn (fun z => absurd z nw) (fun _ => br_t rfl (in_c (vp_in_nI (by omega) (by omega)) (cb_i (d := pa n = p + 1) ?_ (fun e => in_c (vp_in_nI (by omega) (by omega)) ?_) (fun e => in_c (vp_in_nI (by omega) (by omega)) ?_)))))))))
  · rw [ar_pc _ (by omega), ar_is (by omega) (by omega)]
  · rw [ar_nc _ (by omega)]
    unfold pt_m at h
    rw [if_pos e] at h
    obtain ⟨_, _, i, hi, _⟩ := tr_pe T hn e
    rw [show nI (sz p) - 1 = nI (sz p - 1) from pk_sub (b := 1) (by omega)]
    exact h
  · rw [ar_nc _ (by omega)]
    unfold pt_m at h
    rw [if_neg e] at h
    exact h
theorem yy_putw {c : Nat} {kd pa sz it pn po : Nat → Nat} {ln : Int32} {mk os cs cm : Nat → Int32} {post : Int32 → SY → Prop} {n p : Nat} {x : Int32} (T : tr_T c kd pa sz it) (hn : n < c) (hp : p < c) (kp : kd p = 0) (n0 : n ≠ 0) (nw : ¬ tr_w pa (p + 1) n) (h : wY_put_75 post (nI p) (nI n) x (nI (pt_m pa sz n p)) (nI c) ln (ar_n kd) (ar_p pa) (ar_n sz) (ar_n it) (ar_n pn) (ar_n po) mk os cs cm) : wpY_put post (nI c, ln, ar_n kd, ar_p pa, ar_n sz, ar_n it, ar_n pn, ar_n po, mk, os, cs, cm) (nI p) (nI n) x := by
  have c24 := tr_c24 T
  have hl := tr_pl T hn
  unfold wpY_put
  dsimp only
  refine yy_isNode_t c24 hp (br_f (by decide) (in_c (vp_in_nI (by omega) (by omega)) (br_t (by rw [ar_nc _ (by omega), kp]; rfl) (yy_isNode_t c24 hn (br_f (by decide) (br_f (nI_ne0 (by omega) (by omega)) (br_f (fun z => ?_) (yy_isBelow T hp hn (fun z => absurd (tr_ws z) nw) (fun _ => br_t rfl (in_c (vp_in_nI (by omega) (by omega)) (cb_i (d := pa n = p + 1) ?_ (fun e => in_c (vp_in_nI (by omega) (by omega)) ?_) (fun e => in_c (vp_in_nI (by omega) (by omega)) ?_))))))))))))
  · rw [nI_eq (by omega) (by omega)] at z
    subst z
    exact nw (tr_wr _ _)
  · rw [ar_pc _ (by omega), ar_is (by omega) (by omega)]
  · rw [ar_nc _ (by omega)]
    unfold pt_m at h
    rw [if_pos e] at h
    obtain ⟨_, _, i, hi, _⟩ := tr_pe T hn e
    rw [show nI (sz p) - 1 = nI (sz p - 1) from pk_sub (b := 1) (by omega)]
    exact h
  · rw [ar_nc _ (by omega)]
    unfold pt_m at h
    rw [if_neg e] at h
    exact h
theorem i_vc_put {k : Nat} {u : SX} {v : SY} (I : i_Rel k u v) (hk : k + 5 ≤ 2560) (v1 : Int32) (v2 : Int32) (v3 : Int32) : wpX_put (fun r u' => wpY_put (fun r' v' => r' = r ∧ i_Rel (k + 5) u' v') v v1 v2 v3) u v1 v2 v3 := by
  have J := i_up I
  obtain ⟨c, kd, pa, sz, it, pn, po, sg, eg, rl, rn, oa, ca, il, dm, ln, mk, os, cs, cm, rfl, rfl, T, P⟩ := I
  have c24 := tr_c24 T
  rcases nd_cases c v1 with ⟨p, hp, rfl⟩ | h
  · have hpi : vp_in (nI p) 24 := vp_in_nI (by omega) (by omega)
    rcases tr_k1 T hp with kp | kp
    · rcases nd_cases c v2 with ⟨n, hn, rfl⟩ | h2
      · have hni : vp_in (nI n) 24 := vp_in_nI (by omega) (by omega)
        by_cases n0 : n = 0
        · subst n0
          unfold wpX_put
          dsimp only
          refine xx_isOfKind_t (k := 0) c24 hp kp (br_f (by decide) (xx_isNode_t c24 hn (br_f (by decide) (br_t rfl ?_))))
          unfold wpY_put
          dsimp only
          exact yy_isNode_t c24 hp (br_f (by decide) (in_c hpi (br_t (by rw [ar_nc _ (by omega), kp]; rfl) (yy_isNode_t c24 hn (br_f (by decide) (br_t rfl ⟨rfl, J⟩))))))
        · by_cases nw : tr_w pa (p + 1) n
          · unfold wpX_put
            dsimp only
            refine xx_isOfKind_t (k := 0) c24 hp kp (br_f (by decide) (xx_isNode_t c24 hn (br_f (by decide) (br_f (nI_ne0 (by omega) (by omega)) (xx_isWithin T hp hn (fun _ => br_f (by decide) ?_) (fun z => absurd nw z))))))
            unfold wpY_put
            dsimp only
            refine yy_isNode_t c24 hp (br_f (by decide) (in_c hpi (br_t (by rw [ar_nc _ (by omega), kp]; rfl) (yy_isNode_t c24 hn (br_f (by decide) (br_f (nI_ne0 (by omega) (by omega)) (cb_i (nI_eq (by omega) (by omega)) (fun _ => ⟨rfl, J⟩) (fun e => yy_isBelow T hp hn (fun _ => br_f (by decide) ⟨rfl, J⟩) (fun z => ?_)))))))))
            rcases tr_wc nw with q | q
            · exact absurd q e
            · exact absurd q z
          · refine xx_putw T hn hp kp n0 nw ?_
            have hpt : pt_m pa sz n p ≤ sz p := by unfold pt_m; split <;> omega
            have s24 := tr_s24 T hp
            by_cases z : v3 < 0
            · exact br_t z (yy_putw T hn hp kp n0 nw (br_t z ⟨rfl, J⟩))
            · obtain ⟨i, hi, rfl⟩ := nI_of z
              refine br_f z (cb_i (nI_leI hi (by omega)) (fun l => in_c hni ?_) (fun l => yy_putw T hn hp kp n0 nw (br_f z (br_f (by rw [nI_leI hi (by omega)]; exact l) ⟨rfl, J⟩))))
              cases e : pa n with
              | zero =>
                have hm : pt_m pa sz n p = sz p := by unfold pt_m; rw [if_neg (by omega)]
                have ne0 : n ≠ p := by rintro rfl; exact nw (tr_wr pa _)
                have s2 := tr_sz2 T hp kp hn ne0 (by omega)
                refine br_t (by rw [ar_pc _ (by omega), e]; decide) (xx_put92 T P.1 hn hp (by omega) (by omega) ?_)
                refine yy_putw T hn hp kp n0 nw (br_f z (br_t (by rw [nI_leI hi (by omega)]; exact l) (in_c hni (br_t (by rw [ar_pc _ (by omega), e]; decide) (yy_put105 T P.1 hn hp (by omega) (by omega) ?_)))))
                exact ⟨rfl, rel_mk (tr_Tput T hp kp hn e nw (by omega)) (pl_Ppt T hp kp hn e nw (by omega) P)⟩
              | succ q =>
                obtain ⟨hq, kq, j, hj, he⟩ := tr_pe T hn e
                have T1 := tr_Ttake T hn e hj he
                have P1 := pl_Ptk T hn e hj he P
                have nw1 : ¬ tr_w (st_u pa n 0) (p + 1) n := fun z => nw (tr_e1 z)
                have ne0 : n ≠ p := by rintro rfl; exact nw (tr_wr pa _)
                have s2 := tr_sz2 T1 hp kp hn ne0 (by rw [st_us]; omega)
                have hi1 : i ≤ st_u sz q (sz q - 1) p := by
                  unfold pt_m at l
                  by_cases d : p = q
                  · subst d; rw [st_us]; rw [if_pos e] at l; exact l
                  · rw [st_un d]; rw [if_neg (by omega)] at l; exact l
                refine br_f (by rw [ar_pc _ (by omega), e, ar_no (by omega)]; omega) (xx_takeOut T P.1 hn e hj he ?_)
                refine xx_put92 T1 P1.1 hn hp (by omega) hi1 ?_
                refine yy_putw T hn hp kp n0 nw (br_f z (br_t (by rw [nI_leI hi (by omega)]; exact l) (in_c hni (br_f (by rw [ar_pc _ (by omega), e, ar_neg (by omega)]; omega) (yy_takeOut T P.1 hn e hj he ?_)))))
                refine yy_put105 T1 P1.1 hn hp (by omega) hi1 ?_
                exact ⟨rfl, rel_mk (tr_Tput T1 hp kp hn (st_us _ _ _) nw1 hi1) (pl_Ppt T1 hp kp hn (st_us _ _ _) nw1 hi1 P1)⟩
      · unfold wpX_put
        dsimp only
        refine xx_isOfKind_t (k := 0) c24 hp kp (br_f (by decide) (xx_isNode_f c24 h2 (br_t rfl ?_)))
        unfold wpY_put
        dsimp only
        exact yy_isNode_t c24 hp (br_f (by decide) (in_c hpi (br_t (by rw [ar_nc _ (by omega), kp]; rfl) (yy_isNode_f c24 h2 (br_t rfl ⟨rfl, J⟩)))))
    · unfold wpX_put
      dsimp only
      refine xx_isOfKind_k (k := 0) c24 hp (by omega) (by omega) (by omega) (br_t rfl ?_)
      unfold wpY_put
      dsimp only
      exact yy_isNode_t c24 hp (br_f (by decide) (in_c hpi (br_f (by rw [ar_nc _ (by omega), kp]; decide) ⟨rfl, J⟩)))
  · unfold wpX_put
    dsimp only
    refine xx_isOfKind_f c24 h (br_t rfl ?_)
    unfold wpY_put
    dsimp only
    exact yy_isNode_f c24 h (br_t rfl ⟨rfl, J⟩)
/-! replace -/
theorem ex_mono (a c k : Nat) : ∀ x y, x ≤ y → ex_g a c k x ≤ ex_g a c k y := by
  intro x y h
  unfold ex_g
  split <;> split <;> (try split) <;> (try split) <;> omega
theorem ex_T {c : Nat} {kd pa sz it : Nat → Nat} (T : tr_T c kd pa sz it) {t a g k d : Nat} (ht : t < c) (kt : kd t = 1) (ha : a + g ≤ sz t) (hk : sz t + k - g ≤ 12) :
    (∀ n, n < c → kd n = 0 → st_u sz t (sz t + k - g) n = sz n ∧ ∀ i, i < 24 → dg_w k (24 * t + a) d (ex_i it t a g k (sz t)) (24 * n + i) = it (24 * n + i)) ∧
    (∀ n, n < c → kd n = 1 → st_u sz t (sz t + k - g) n ≤ 12 ∧ ∀ i, i < st_u sz t (sz t + k - g) n → dg_w k (24 * t + a) d (ex_i it t a g k (sz t)) (24 * n + i) ≤ 9) := by
  have tt := T.2.2.1 t ht kt
  have oth : ∀ n i, n ≠ t → i < 24 → dg_w k (24 * t + a) d (ex_i it t a g k (sz t)) (24 * n + i) = it (24 * n + i) := by
    intro n i ne hi
    rw [dg_o _ _ _ _ _ (by omega)]
    unfold ex_i
    split
    · exact mv_lo it ne hi (by omega) (by omega)
    · exact mv_ro it ne hi (by omega)
  refine ⟨fun n hn kn => ?_, fun n hn kn => ?_⟩
  · have ne : n ≠ t := by rintro rfl; omega
    exact ⟨st_un ne, fun i hi => oth n i ne hi⟩
  · by_cases ne : n = t
    · subst ne
      rw [st_us]
      refine ⟨hk, fun i hi => ?_⟩
      by_cases h1 : a ≤ i ∧ i < a + k
      · exact dg_9 _ _ _ _ _ (by omega) (by omega)
      · rw [dg_o _ _ _ _ _ (by omega)]
        unfold ex_i
        split
        · by_cases h2 : i < a
          · rw [mv_lb it (by omega)]; exact tt.2 i (by omega)
          · rw [mv_li it (by omega) (by omega)]; exact tt.2 _ (by omega)
        · by_cases h2 : i < a
          · rw [mv_rb it (by omega)]; exact tt.2 i (by omega)
          · rw [mv_ri it (by omega) (by omega)]; exact tt.2 _ (by omega)
    · rw [st_un ne]
      have := T.2.2.1 n hn kn
      refine ⟨this.1, fun i hi => ?_⟩
      rw [oth n i ne (by omega)]
      exact this.2 i hi
theorem ex_TP {c : Nat} {kd pa sz it pn po : Nat → Nat} (T : tr_T c kd pa sz it) (P : pl_P c kd pa sz it pn po) {t a g k d : Nat} (ht : t < c) (kt : kd t = 1) (ha : a + g ≤ sz t) (hk : sz t + k - g ≤ 12) :
    tr_T c kd pa (st_u sz t (sz t + k - g)) (dg_w k (24 * t + a) d (ex_i it t a g k (sz t))) ∧ pl_P c kd pa (st_u sz t (sz t + k - g)) (dg_w k (24 * t + a) d (ex_i it t a g k (sz t))) (mp_n (pl_ex t (ex_g a g k)) pn po) (mp_o (pl_ex t (ex_g a g k)) pn po) := by
  obtain ⟨h0, h1⟩ := ex_T T (d := d) ht kt ha hk
  refine ⟨tr_Ttx T h0 h1, pl_map _ (pl_ok c sz) P P.1 ?_ ?_⟩
  · intro v o h
    have := h.1
    have := h.2
    unfold pl_ex
    split
    · rename_i e
      subst e
      refine ⟨ht, ?_⟩
      rw [st_us]
      dsimp only
      unfold ex_g
      split
      · omega
      · split <;> omega
    · rename_i e
      exact ⟨h.1, by rw [st_un e]; exact h.2⟩
  · intro v o v' o' _ _ R
    exact pl_Rex T h0 kt (ex_mono a g k) R ht
theorem dg_ex {x : Int32} (h1 : ¬ x < -1) (h2 : x ≤ 9999) : ∃ k d, dg_c x k d := by
  by_cases z : x < 0
  · refine ⟨0, 0, Or.inl ⟨?_, rfl, rfl⟩⟩
    rw [← Int32.toInt_inj]
    rw [Int32.lt_iff_toInt_lt] at h1 z
    rw [show (-1 : Int32).toInt = -1 from by decide] at h1 ⊢
    rw [show (0 : Int32).toInt = 0 from by decide] at z
    omega
  · obtain ⟨d, hd, rfl⟩ := nI_of z
    have h3 := (nI_leI (a := d) (b := 9999) hd (by omega)).mp h2
    by_cases a1 : d < 10
    · exact ⟨1, d, Or.inr ⟨rfl, Or.inl ⟨a1, rfl⟩⟩⟩
    · by_cases a2 : d < 100
      · exact ⟨2, d, Or.inr ⟨rfl, Or.inr (Or.inl ⟨by omega, a2, rfl⟩)⟩⟩
      · by_cases a3 : d < 1000
        · exact ⟨3, d, Or.inr ⟨rfl, Or.inr (Or.inr (Or.inl ⟨by omega, a3, rfl⟩))⟩⟩
        · exact ⟨4, d, Or.inr ⟨rfl, Or.inr (Or.inr (Or.inr ⟨by omega, by omega, rfl⟩))⟩⟩
theorem yy_r72 {c : Nat} {kd pa sz it pn po : Nat → Nat} {ln : Int32} {mk os cs cm : Nat → Int32} {post : Int32 → SY → Prop} {t a z x : Int32} {k d : Nat} (hx : dg_c x k d) (h : wY_replace_118 post t a x z (nI k) (nI c) ln (ar_n kd) (ar_p pa) (ar_n sz) (ar_n it) (ar_n pn) (ar_n po) mk os cs cm) : wY_replace_72 post t a x z (nI c) ln (ar_n kd) (ar_p pa) (ar_n sz) (ar_n it) (ar_n pn) (ar_n po) mk os cs cm := by
  rcases hx with ⟨rfl, rfl, _⟩ | ⟨rfl, hx⟩
  · exact br_f (by decide) h
  · refine br_t (nI_pos' (by omega)) ?_
    rcases hx with ⟨h1, rfl⟩ | ⟨h0, h1, rfl⟩ | ⟨h0, h1, rfl⟩ | ⟨h0, h1, rfl⟩
    · exact br_f (nI_ge (b := 10) h1 (by omega)) h
    · exact br_t (nI_le (a := 10) h0 (by omega)) (br_f (nI_ge (b := 100) h1 (by omega)) h)
    · exact br_t (nI_le (a := 10) (by omega) (by omega)) (br_t (nI_le (a := 100) h0 (by omega)) (br_f (nI_ge (b := 1000) h1 (by omega)) h))
    · exact br_t (nI_le (a := 10) (by omega) (by omega)) (br_t (nI_le (a := 100) (by omega) (by omega)) (br_t (nI_le (a := 1000) h0 (by omega)) h))
theorem xx_r71 {c : Nat} {kd pa sz it pn po : Nat → Nat} {sg eg : Int32} {rl rn oa ca il dm : Nat → Int32} {post : Int32 → SX → Prop} {t a g k d : Nat} {x : Int32} (T : tr_T c kd pa sz it) (V : ∀ k, k < 8 → pl_ok c sz (pn k) (po k)) (ht : t < c) (kt : kd t = 1) (ha : a + g ≤ sz t) (hx : dg_c x k d)
    (h4 : ¬ sz t + k - g ≤ 12 → post (-4) (nI c, sg, eg, ar_n kd, ar_p pa, ar_n sz, ar_n it, ar_n pn, ar_n po, rl, rn, oa, ca, il, dm))
    (h : sz t + k - g ≤ 12 → post (nI (sz t + k - g)) (nI c, sg, eg, ar_n kd, ar_p pa, ar_n (st_u sz t (sz t + k - g)), ar_n (dg_w k (24 * t + a) d (ex_i it t a g k (sz t))), ar_n (mp_n (pl_ex t (ex_g a g k)) pn po), ar_n (mp_o (pl_ex t (ex_g a g k)) pn po), rl, rn, oa, ca, il, dm)) : wX_replace_71 post (nI t) (nI a) x (nI g) (nI c) sg eg (ar_n kd) (ar_p pa) (ar_n sz) (ar_n it) (ar_n pn) (ar_n po) rl rn oa ca il dm := by
  have c24 := tr_c24 T
  have tt := T.2.2.1 t ht kt
  have k4 := dg_k hx
  unfold wX_replace_71
  refine xx_digitCount hx (in_c (vp_in_nI (by omega) (by omega)) ?_)
  rw [ar_nc _ (by omega), pk_sub (by omega), nI_add]
  refine cb_i (d := sz t + k - g ≤ 12) ?_ (fun l => ?_) h4
  · rw [show (12 : Int32) = nI 12 from rfl, nI_leI (by omega) (by omega)]; omega
  · refine xx_replaceLetters T V ht ha l tt.1 hx (in_c (vp_in_nI (by omega) (by omega)) ?_)
    rw [ar_nc _ (by omega), st_us]
    exact h l
theorem yy_r118 {c : Nat} {kd pa sz it pn po : Nat → Nat} {ln : Int32} {mk os cs cm : Nat → Int32} {post : Int32 → SY → Prop} {t a g k d : Nat} {x : Int32} (T : tr_T c kd pa sz it) (V : ∀ k, k < 8 → pl_ok c sz (pn k) (po k)) (ht : t < c) (kt : kd t = 1) (ha : a + g ≤ sz t) (hx : dg_c x k d)
    (h4 : ¬ sz t + k - g ≤ 12 → post (-4) (nI c, ln, ar_n kd, ar_p pa, ar_n sz, ar_n it, ar_n pn, ar_n po, mk, os, cs, cm))
    (h : sz t + k - g ≤ 12 → post (nI (sz t + k - g)) (nI c, ln, ar_n kd, ar_p pa, ar_n (st_u sz t (sz t + k - g)), ar_n (dg_w k (24 * t + a) d (ex_i it t a g k (sz t))), ar_n (mp_n (pl_ex t (ex_g a g k)) pn po), ar_n (mp_o (pl_ex t (ex_g a g k)) pn po), mk, os, cs, cm)) : wY_replace_72 post (nI t) (nI a) x (nI g) (nI c) ln (ar_n kd) (ar_p pa) (ar_n sz) (ar_n it) (ar_n pn) (ar_n po) mk os cs cm := by
  have c24 := tr_c24 T
  have tt := T.2.2.1 t ht kt
  have k4 := dg_k hx
  refine yy_r72 hx (in_c (vp_in_nI (by omega) (by omega)) ?_)
  rw [ar_nc _ (by omega), pk_sub (by omega), nI_add]
  refine cb_i (d := sz t + k - g ≤ 12) ?_ (fun l => ?_) h4
  · rw [show (12 : Int32) = nI 12 from rfl, nI_leI (by omega) (by omega)]; omega
  · refine yy_exchange T V ht ha l tt.1 k4.1 (nm_e ⟨k + 1, ?_⟩)
    have h := h l
    rcases hx with ⟨_, rfl, rfl⟩ | ⟨rfl, hx⟩
    · refine br_t (by decide) (in_c (vp_in_nI (by omega) (by omega)) ?_)
      rw [ar_nc _ (by omega), st_us]
      exact h
    · exact yy_dgl (t := t) (a := a) (by omega) k d _ (by omega) (by omega) (by rw [st_us]; exact h)
theorem i_vc_replace {k : Nat} {u : SX} {v : SY} (I : i_Rel k u v) (hk : k + 5 ≤ 2560) (v1 : Int32) (v2 : Int32) (v3 : Int32) (v4 : Int32) : wpX_replace (fun r u' => wpY_replace (fun r' v' => r' = r ∧ i_Rel (k + 5) u' v') v v1 v2 v3 v4) u v1 v2 v3 v4 := by
  have J := i_up I
  obtain ⟨c, kd, pa, sz, it, pn, po, sg, eg, rl, rn, oa, ca, il, dm, ln, mk, os, cs, cm, rfl, rfl, T, P⟩ := I
  have c24 := tr_c24 T
  unfold wpX_replace
  dsimp only
  rcases nd_cases c v1 with ⟨t, ht, rfl⟩ | h
  · have hti : vp_in (nI t) 24 := vp_in_nI (by omega) (by omega)
    have s24 := tr_s24 T ht
    rcases tr_k1 T ht with kt | kt
    · refine xx_isOfKind_k (k := 1) c24 ht (by omega) (by omega) (by omega) (br_t rfl ?_)
      unfold wpY_replace
      dsimp only
      exact yy_isTextNode_k c24 ht kt (br_t rfl ⟨rfl, J⟩)
    · refine xx_isOfKind_t (k := 1) c24 ht kt (br_f (by decide) ?_)
      by_cases z : v2 < 0
      · refine br_t z ?_
        unfold wpY_replace
        dsimp only
        exact yy_isTextNode_t c24 ht kt (br_f (by decide) (br_t z ⟨rfl, J⟩))
      · obtain ⟨a, ha, rfl⟩ := nI_of z
        refine br_f z (in_c hti ?_)
        have sa : ar_n sz (nI t).toNatClampNeg = nI (sz t) := ar_nc _ (by omega)
        rw [sa]
        refine cb_i (nI_ltI (by omega) ha) (fun l => ?_) (fun l => ?_)
        · unfold wpY_replace
          dsimp only
          exact yy_isTextNode_t c24 ht kt (br_f (by decide) (br_f z (in_c hti (br_t (by rw [sa, nI_ltI (by omega) ha]; exact l) ⟨rfl, J⟩))))
        · have l' : ¬ ar_n sz (nI t).toNatClampNeg < nI a := by rw [sa, nI_ltI (by omega) ha]; exact l
          by_cases z3 : 0 ≤ v3
          · refine br_t z3 ?_
            by_cases z4 : v4 < -1
            · refine br_t z4 ?_
              unfold wpY_replace
              dsimp only
              exact yy_isTextNode_t c24 ht kt (br_f (by decide) (br_f z (in_c hti (br_f l' (br_t z3 (br_t z4 ⟨rfl, J⟩))))))
            · refine br_f z4 ?_
              by_cases z5 : v4 ≤ 9999
              · refine br_t z5 (in_c hti ?_)
                obtain ⟨q, d, hx⟩ := dg_ex z4 z5
                obtain ⟨g, hg, rfl⟩ := nI_of (Int32.not_lt.mpr z3)
                have YW : ∀ (post : Int32 → SY → Prop) (g' : Nat), (g ≤ sz t - a ∧ g' = g ∨ ¬ g ≤ sz t - a ∧ g' = sz t - a) → wY_replace_72 post (nI t) (nI a) v4 (nI g') (nI c) ln (ar_n kd) (ar_p pa) (ar_n sz) (ar_n it) (ar_n pn) (ar_n po) mk os cs cm → wpY_replace post (nI c, ln, ar_n kd, ar_p pa, ar_n sz, ar_n it, ar_n pn, ar_n po, mk, os, cs, cm) (nI t) (nI a) (nI g) v4 := by
                  intro post g' hg' h
                  unfold wpY_replace
                  dsimp only
                  refine yy_isTextNode_t c24 ht kt (br_f (by decide) (br_f z (in_c hti (br_f l' (br_t z3 (br_f z4 (br_t z5 (in_c hti ?_))))))))
                  rw [sa, pk_sub (by omega)]
                  rcases hg' with ⟨h1, rfl⟩ | ⟨h1, rfl⟩
                  · exact br_t (by rw [nI_leI hg (by omega)]; exact h1) h
                  · exact br_f (by rw [nI_leI hg (by omega)]; exact h1) (in_c hti h)
                have fin : ∀ g', (g ≤ sz t - a ∧ g' = g ∨ ¬ g ≤ sz t - a ∧ g' = sz t - a) → wX_replace_71 (fun r u' => wpY_replace (fun r' v' => r' = r ∧ i_Rel (k + 5) u' v') (nI c, ln, ar_n kd, ar_p pa, ar_n sz, ar_n it, ar_n pn, ar_n po, mk, os, cs, cm) (nI t) (nI a) (nI g) v4) (nI t) (nI a) v4 (nI g') (nI c) sg eg (ar_n kd) (ar_p pa) (ar_n sz) (ar_n it) (ar_n pn) (ar_n po) rl rn oa ca il dm := by
                  intro g' hg'
                  have hb : a + g' ≤ sz t := by omega
                  refine xx_r71 T P.1 ht kt hb hx (fun l4 => YW _ g' hg' (yy_r118 T P.1 ht kt hb hx (fun _ => ⟨rfl, J⟩) (fun l5 => absurd l5 l4))) (fun l4 => YW _ g' hg' (yy_r118 T P.1 ht kt hb hx (fun l5 => absurd l4 l5) (fun _ => ⟨rfl, ?_⟩)))
                  obtain ⟨T', P'⟩ := ex_TP T P (d := d) ht kt hb l4
                  exact rel_mk T' P'
                refine nm_r (pk_sub (by omega)) (cb_i (nI_leI hg (by omega)) (fun l2 => fin g (Or.inl ⟨l2, rfl⟩)) (fun l2 => fin _ (Or.inr ⟨l2, rfl⟩)))
              · refine br_f z5 ?_
                unfold wpY_replace
                dsimp only
                exact yy_isTextNode_t c24 ht kt (br_f (by decide) (br_f z (in_c hti (br_f l' (br_t z3 (br_f z4 (br_f z5 ⟨rfl, J⟩)))))))
          · refine br_f z3 ?_
            unfold wpY_replace
            dsimp only
            exact yy_isTextNode_t c24 ht kt (br_f (by decide) (br_f z (in_c hti (br_f l' (br_f z3 ⟨rfl, J⟩)))))
  · refine xx_isOfKind_f c24 h (br_t rfl ?_)
    unfold wpY_replace
    dsimp only
    exact yy_isTextNode_f c24 h (br_t rfl ⟨rfl, J⟩)
